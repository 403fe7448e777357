set_option maxHeartbeats 4000000 in
set_option maxRecDepth 100000 in
theorem lc_row {p : Program} {l : Launch} {e : Env} {s : State} {m : MethodId} {below : List Frame} {meth : Method} {c : Code} {b L : Nat} {xs : Nat → Int32} {D : va_G} {cA : Nat → ClassId} {h1 h2 : Nat → Nat} {Inv : sT → sT → Prop} {i : Nat} (hst : st_row Inv) (hL : L ≤ 384) (hi : i + 6 ≤ L) (X : lwX p s m meth c b L xs D cA h1 h2) (kn : ∀ (SC SR : sT) (H : Heap) (locs : List Loc) (ls : Array Slot), Inv SC SR → va_P D vwCl (wC h1 cA SC) H → va_P D vwCl (wR h2 cA SR) H → va_S (fun q => s.heap.size ≤ q) s.heap H locs → lv_has ls 4 [(3, .int (nI i)), (2, .ref (h2 100)), (1, .ref (h1 1000)), (0, .ref b)] → W p l e room_1 s m #[Value.ref b] below meth c H locs 600000 7302250 (lw_Z below #[Value.ref b] s) (F0 m 1261 ls [])) {SC SR : sT} {H : Heap} {locs : List Loc} {ls : Array Slot} (hI : Inv SC SR) (hPC : va_P D vwCl (wC h1 cA SC) H) (hPR : va_P D vwCl (wR h2 cA SR) H) (hS : va_S (fun q => s.heap.size ≤ q) s.heap H locs) (hl : lv_has ls 4 [(3, .int (nI i)), (2, .ref (h2 100)), (1, .ref (h1 1000)), (0, .ref b)]) : W p l e room_1 s m #[Value.ref b] below meth c H locs 600000 7302250 (lw_Z below #[Value.ref b] s) (F0 m 208 ls []) := by
  obtain ⟨CF, hr, hX, hbl, hlocks, hK, hz, hk1, hk2, hky1, hky2, hdis⟩ := X
  obtain ⟨hx, hb, hml, hown, hts⟩ := id CF
  have hbA : ¬ (fun q : Nat => s.heap.size ≤ q) b := Nat.not_le.mpr hbl
  refine lv_aload_n hx hb dL_law_208 rfl (lv_at hl 2 rfl) ?_
  refine lv_aload_n hx hb dL_law_209 rfl (lv_at hl 3 rfl) ?_
  refine lv_iload_n hx hb dL_law_210 rfl (lv_at hl 0 rfl) ?_
  refine lv_iconst (v := 1) hx hb dL_law_211 (by decide) ?_
  refine lv_iadd hx hb dL_law_212 ?_
  refine va_sld hx hb hX hbl hbA hS (lw_ix (c := 1) hL hi (by decide)) dL_law_213 ?_
  refine lv_aload_n hx hb dL_law_214 rfl (lv_at hl 3 rfl) ?_
  refine lv_iload_n hx hb dL_law_215 rfl (lv_at hl 0 rfl) ?_
  refine lv_iconst (v := 2) hx hb dL_law_216 (by decide) ?_
  refine lv_iadd hx hb dL_law_217 ?_
  refine va_sld hx hb hX hbl hbA hS (lw_ix (c := 2) hL hi (by decide)) dL_law_218 ?_
  refine lw_i (n := 2) (rest := []) (w := wC h1 cA) (V := wR h2 cA SR) CF hK hz hk1 hPC hPR (fun i x hx k hk e => by obtain ⟨k2, hk2, e2⟩ := key_of (wR_fst h2 cA SR) hx; exact hdis k hk k2 hk2 (e.symm.trans e2)) hS (c_X4_row l hky1 _ (hst _ _ SC SR hI)) (lwG_V lm_L_13 li_X4_row lx_X4_row lz_RX4 lc_X4_row) (by decide +kernel) (oD_at h1 cA _) rfl rfl rfl (Nat.le_of_ble_eq_true rfl) ⟨rfl, rfl⟩ ⟨by decide, by decide⟩ dL_law_219 hl.1 ⟨by decide, by decide⟩ (fun r SC H locs hd hPC hPR hS => ?_)
  refine lv_aload_n hx hb dL_law_222 rfl (lv_at hl 1 rfl) ?_
  refine lv_aload_n hx hb dL_law_223 rfl (lv_at hl 3 rfl) ?_
  refine lv_iload_n hx hb dL_law_224 rfl (lv_at hl 0 rfl) ?_
  refine lv_iconst (v := 1) hx hb dL_law_225 (by decide) ?_
  refine lv_iadd hx hb dL_law_226 ?_
  refine va_sld hx hb hX hbl hbA hS (lw_ix (c := 1) hL hi (by decide)) dL_law_227 ?_
  refine lv_aload_n hx hb dL_law_228 rfl (lv_at hl 3 rfl) ?_
  refine lv_iload_n hx hb dL_law_229 rfl (lv_at hl 0 rfl) ?_
  refine lv_iconst (v := 2) hx hb dL_law_230 (by decide) ?_
  refine lv_iadd hx hb dL_law_231 ?_
  refine va_sld hx hb hX hbl hbA hS (lw_ix (c := 2) hL hi (by decide)) dL_law_232 ?_
  refine lw_i (n := 2) (rest := [.int r]) (w := wR h2 cA) (V := wC h1 cA SC) (b := false) CF hK (fun _ _ _ _ _ h => by cases h) hk2 hPR hPC (fun i x hx k hk e => by obtain ⟨k2, hk2, e2⟩ := key_of (wC_fst h1 cA SC) hx; exact hdis k2 hk2 k hk (e2.symm.trans e)) hS (c_X5_row l hky2 _ hd) (lwG_V lm_L_17 li_X5_row lx_X5_row lz_RX5 lc_X5_row) (by decide +kernel) (oR_at h2 cA _) rfl rfl rfl (Nat.le_of_ble_eq_true rfl) ⟨rfl, rfl⟩ ⟨by decide, by decide⟩ dL_law_233 hl.1 ⟨by decide, by decide⟩ (fun r2 SR H locs hd hPR hPC hS => ?_)
  refine lv_icmp_eq (tgt := 1261) hx hb dL_law_236 (by decide) (fun _ => ?_) (fun hc => absurd hd.1 hc)
  exact kn _ _ _ _ _ hd.2 hPC hPR hS hl
set_option maxHeartbeats 4000000 in
set_option maxRecDepth 100000 in
theorem lc_lay {p : Program} {l : Launch} {e : Env} {s : State} {m : MethodId} {below : List Frame} {meth : Method} {c : Code} {b L : Nat} {xs : Nat → Int32} {D : va_G} {cA : Nat → ClassId} {h1 h2 : Nat → Nat} {Inv : sT → sT → Prop} {i : Nat} (hst : st_lay Inv) (hL : L ≤ 384) (hi : i + 6 ≤ L) (X : lwX p s m meth c b L xs D cA h1 h2) (kn : ∀ (SC SR : sT) (H : Heap) (locs : List Loc) (ls : Array Slot), Inv SC SR → va_P D vwCl (wC h1 cA SC) H → va_P D vwCl (wR h2 cA SR) H → va_S (fun q => s.heap.size ≤ q) s.heap H locs → lv_has ls 4 [(3, .int (nI i)), (2, .ref (h2 100)), (1, .ref (h1 1000)), (0, .ref b)] → W p l e room_1 s m #[Value.ref b] below meth c H locs 600000 7302250 (lw_Z below #[Value.ref b] s) (F0 m 1261 ls [])) {SC SR : sT} {H : Heap} {locs : List Loc} {ls : Array Slot} (hI : Inv SC SR) (hPC : va_P D vwCl (wC h1 cA SC) H) (hPR : va_P D vwCl (wR h2 cA SR) H) (hS : va_S (fun q => s.heap.size ≤ q) s.heap H locs) (hl : lv_has ls 4 [(3, .int (nI i)), (2, .ref (h2 100)), (1, .ref (h1 1000)), (0, .ref b)]) : W p l e room_1 s m #[Value.ref b] below meth c H locs 600000 7302250 (lw_Z below #[Value.ref b] s) (F0 m 241 ls []) := by
  obtain ⟨CF, hr, hX, hbl, hlocks, hK, hz, hk1, hk2, hky1, hky2, hdis⟩ := X
  obtain ⟨hx, hb, hml, hown, hts⟩ := id CF
  have hbA : ¬ (fun q : Nat => s.heap.size ≤ q) b := Nat.not_le.mpr hbl
  refine lv_aload_n hx hb dL_law_241 rfl (lv_at hl 2 rfl) ?_
  refine lv_aload_n hx hb dL_law_242 rfl (lv_at hl 3 rfl) ?_
  refine lv_iload_n hx hb dL_law_243 rfl (lv_at hl 0 rfl) ?_
  refine lv_iconst (v := 1) hx hb dL_law_244 (by decide) ?_
  refine lv_iadd hx hb dL_law_245 ?_
  refine va_sld hx hb hX hbl hbA hS (lw_ix (c := 1) hL hi (by decide)) dL_law_246 ?_
  refine lv_aload_n hx hb dL_law_247 rfl (lv_at hl 3 rfl) ?_
  refine lv_iload_n hx hb dL_law_248 rfl (lv_at hl 0 rfl) ?_
  refine lv_iconst (v := 2) hx hb dL_law_249 (by decide) ?_
  refine lv_iadd hx hb dL_law_250 ?_
  refine va_sld hx hb hX hbl hbA hS (lw_ix (c := 2) hL hi (by decide)) dL_law_251 ?_
  refine lv_aload_n hx hb dL_law_252 rfl (lv_at hl 3 rfl) ?_
  refine lv_iload_n hx hb dL_law_253 rfl (lv_at hl 0 rfl) ?_
  refine lv_iconst (v := 3) hx hb dL_law_254 (by decide) ?_
  refine lv_iadd hx hb dL_law_255 ?_
  refine va_sld hx hb hX hbl hbA hS (lw_ix (c := 3) hL hi (by decide)) dL_law_256 ?_
  refine lw_i (n := 3) (rest := []) (w := wC h1 cA) (V := wR h2 cA SR) CF hK hz hk1 hPC hPR (fun i x hx k hk e => by obtain ⟨k2, hk2, e2⟩ := key_of (wR_fst h2 cA SR) hx; exact hdis k hk k2 hk2 (e.symm.trans e2)) hS (c_X4_lay l hky1 _ (hst _ _ _ SC SR hI)) (lwG_V lm_L_18 li_X4_lay lx_X4_lay lz_RX4 lc_X4_lay) (by decide +kernel) (oD_at h1 cA _) rfl rfl rfl (Nat.le_of_ble_eq_true rfl) ⟨rfl, rfl⟩ ⟨by decide, by decide⟩ dL_law_257 hl.1 ⟨by decide, by decide⟩ (fun r SC H locs hd hPC hPR hS => ?_)
  refine lv_aload_n hx hb dL_law_260 rfl (lv_at hl 1 rfl) ?_
  refine lv_aload_n hx hb dL_law_261 rfl (lv_at hl 3 rfl) ?_
  refine lv_iload_n hx hb dL_law_262 rfl (lv_at hl 0 rfl) ?_
  refine lv_iconst (v := 1) hx hb dL_law_263 (by decide) ?_
  refine lv_iadd hx hb dL_law_264 ?_
  refine va_sld hx hb hX hbl hbA hS (lw_ix (c := 1) hL hi (by decide)) dL_law_265 ?_
  refine lv_aload_n hx hb dL_law_266 rfl (lv_at hl 3 rfl) ?_
  refine lv_iload_n hx hb dL_law_267 rfl (lv_at hl 0 rfl) ?_
  refine lv_iconst (v := 2) hx hb dL_law_268 (by decide) ?_
  refine lv_iadd hx hb dL_law_269 ?_
  refine va_sld hx hb hX hbl hbA hS (lw_ix (c := 2) hL hi (by decide)) dL_law_270 ?_
  refine lv_aload_n hx hb dL_law_271 rfl (lv_at hl 3 rfl) ?_
  refine lv_iload_n hx hb dL_law_272 rfl (lv_at hl 0 rfl) ?_
  refine lv_iconst (v := 3) hx hb dL_law_273 (by decide) ?_
  refine lv_iadd hx hb dL_law_274 ?_
  refine va_sld hx hb hX hbl hbA hS (lw_ix (c := 3) hL hi (by decide)) dL_law_275 ?_
  refine lw_i (n := 3) (rest := [.int r]) (w := wR h2 cA) (V := wC h1 cA SC) (b := false) CF hK (fun _ _ _ _ _ h => by cases h) hk2 hPR hPC (fun i x hx k hk e => by obtain ⟨k2, hk2, e2⟩ := key_of (wC_fst h1 cA SC) hx; exact hdis k2 hk2 k hk (e2.symm.trans e)) hS (c_X5_lay l hky2 _ hd) (lwG_V lm_L_22 li_X5_lay lx_X5_lay lz_RX5 lc_X5_lay) (by decide +kernel) (oR_at h2 cA _) rfl rfl rfl (Nat.le_of_ble_eq_true rfl) ⟨rfl, rfl⟩ ⟨by decide, by decide⟩ dL_law_276 hl.1 ⟨by decide, by decide⟩ (fun r2 SR H locs hd hPR hPC hS => ?_)
  refine lv_icmp_eq (tgt := 1261) hx hb dL_law_279 (by decide) (fun _ => ?_) (fun hc => absurd hd.1 hc)
  exact kn _ _ _ _ _ hd.2 hPC hPR hS hl
set_option maxHeartbeats 4000000 in
set_option maxRecDepth 100000 in
theorem lc_at {p : Program} {l : Launch} {e : Env} {s : State} {m : MethodId} {below : List Frame} {meth : Method} {c : Code} {b L : Nat} {xs : Nat → Int32} {D : va_G} {cA : Nat → ClassId} {h1 h2 : Nat → Nat} {Inv : sT → sT → Prop} {i : Nat} (hst : st_at Inv) (hL : L ≤ 384) (hi : i + 6 ≤ L) (X : lwX p s m meth c b L xs D cA h1 h2) (kn : ∀ (SC SR : sT) (H : Heap) (locs : List Loc) (ls : Array Slot), Inv SC SR → va_P D vwCl (wC h1 cA SC) H → va_P D vwCl (wR h2 cA SR) H → va_S (fun q => s.heap.size ≤ q) s.heap H locs → lv_has ls 4 [(3, .int (nI i)), (2, .ref (h2 100)), (1, .ref (h1 1000)), (0, .ref b)] → W p l e room_1 s m #[Value.ref b] below meth c H locs 600000 7302250 (lw_Z below #[Value.ref b] s) (F0 m 1261 ls [])) {SC SR : sT} {H : Heap} {locs : List Loc} {ls : Array Slot} (hI : Inv SC SR) (hPC : va_P D vwCl (wC h1 cA SC) H) (hPR : va_P D vwCl (wR h2 cA SR) H) (hS : va_S (fun q => s.heap.size ≤ q) s.heap H locs) (hl : lv_has ls 4 [(3, .int (nI i)), (2, .ref (h2 100)), (1, .ref (h1 1000)), (0, .ref b)]) : W p l e room_1 s m #[Value.ref b] below meth c H locs 600000 7302250 (lw_Z below #[Value.ref b] s) (F0 m 284 ls []) := by
  obtain ⟨CF, hr, hX, hbl, hlocks, hK, hz, hk1, hk2, hky1, hky2, hdis⟩ := X
  obtain ⟨hx, hb, hml, hown, hts⟩ := id CF
  have hbA : ¬ (fun q : Nat => s.heap.size ≤ q) b := Nat.not_le.mpr hbl
  refine lv_aload_n hx hb dL_law_284 rfl (lv_at hl 2 rfl) ?_
  refine lv_aload_n hx hb dL_law_285 rfl (lv_at hl 3 rfl) ?_
  refine lv_iload_n hx hb dL_law_286 rfl (lv_at hl 0 rfl) ?_
  refine lv_iconst (v := 1) hx hb dL_law_287 (by decide) ?_
  refine lv_iadd hx hb dL_law_288 ?_
  refine va_sld hx hb hX hbl hbA hS (lw_ix (c := 1) hL hi (by decide)) dL_law_289 ?_
  refine lv_aload_n hx hb dL_law_290 rfl (lv_at hl 3 rfl) ?_
  refine lv_iload_n hx hb dL_law_291 rfl (lv_at hl 0 rfl) ?_
  refine lv_iconst (v := 2) hx hb dL_law_292 (by decide) ?_
  refine lv_iadd hx hb dL_law_293 ?_
  refine va_sld hx hb hX hbl hbA hS (lw_ix (c := 2) hL hi (by decide)) dL_law_294 ?_
  refine lw_i (n := 2) (rest := []) (w := wC h1 cA) (V := wR h2 cA SR) CF hK hz hk1 hPC hPR (fun i x hx k hk e => by obtain ⟨k2, hk2, e2⟩ := key_of (wR_fst h2 cA SR) hx; exact hdis k hk k2 hk2 (e.symm.trans e2)) hS (c_X4_at l hky1 _ (hst _ _ SC SR hI)) (lwG_V lm_L_23 li_X4_at lx_X4_at lz_RX4 lc_X4_at) (by decide +kernel) (oD_at h1 cA _) rfl rfl rfl (Nat.le_of_ble_eq_true rfl) ⟨rfl, rfl⟩ ⟨by decide, by decide⟩ dL_law_295 hl.1 ⟨by decide, by decide⟩ (fun r SC H locs hd hPC hPR hS => ?_)
  refine lv_aload_n hx hb dL_law_298 rfl (lv_at hl 1 rfl) ?_
  refine lv_aload_n hx hb dL_law_299 rfl (lv_at hl 3 rfl) ?_
  refine lv_iload_n hx hb dL_law_300 rfl (lv_at hl 0 rfl) ?_
  refine lv_iconst (v := 1) hx hb dL_law_301 (by decide) ?_
  refine lv_iadd hx hb dL_law_302 ?_
  refine va_sld hx hb hX hbl hbA hS (lw_ix (c := 1) hL hi (by decide)) dL_law_303 ?_
  refine lv_aload_n hx hb dL_law_304 rfl (lv_at hl 3 rfl) ?_
  refine lv_iload_n hx hb dL_law_305 rfl (lv_at hl 0 rfl) ?_
  refine lv_iconst (v := 2) hx hb dL_law_306 (by decide) ?_
  refine lv_iadd hx hb dL_law_307 ?_
  refine va_sld hx hb hX hbl hbA hS (lw_ix (c := 2) hL hi (by decide)) dL_law_308 ?_
  refine lw_i (n := 2) (rest := [.int r]) (w := wR h2 cA) (V := wC h1 cA SC) (b := false) CF hK (fun _ _ _ _ _ h => by cases h) hk2 hPR hPC (fun i x hx k hk e => by obtain ⟨k2, hk2, e2⟩ := key_of (wC_fst h1 cA SC) hx; exact hdis k2 hk2 k hk (e2.symm.trans e)) hS (c_X5_at l hky2 _ hd) (lwG_V lm_L_26 li_X5_at lx_X5_at lz_RX5 lc_X5_at) (by decide +kernel) (oR_at h2 cA _) rfl rfl rfl (Nat.le_of_ble_eq_true rfl) ⟨rfl, rfl⟩ ⟨by decide, by decide⟩ dL_law_309 hl.1 ⟨by decide, by decide⟩ (fun r2 SR H locs hd hPR hPC hS => ?_)
  refine lv_icmp_eq (tgt := 1261) hx hb dL_law_312 (by decide) (fun _ => ?_) (fun hc => absurd hd.1 hc)
  exact kn _ _ _ _ _ hd.2 hPC hPR hS hl
set_option maxHeartbeats 4000000 in
set_option maxRecDepth 100000 in
theorem lc_tear {p : Program} {l : Launch} {e : Env} {s : State} {m : MethodId} {below : List Frame} {meth : Method} {c : Code} {b L : Nat} {xs : Nat → Int32} {D : va_G} {cA : Nat → ClassId} {h1 h2 : Nat → Nat} {Inv : sT → sT → Prop} {i : Nat} (hst : st_tear Inv) (hL : L ≤ 384) (hi : i + 6 ≤ L) (X : lwX p s m meth c b L xs D cA h1 h2) (kn : ∀ (SC SR : sT) (H : Heap) (locs : List Loc) (ls : Array Slot), Inv SC SR → va_P D vwCl (wC h1 cA SC) H → va_P D vwCl (wR h2 cA SR) H → va_S (fun q => s.heap.size ≤ q) s.heap H locs → lv_has ls 4 [(3, .int (nI i)), (2, .ref (h2 100)), (1, .ref (h1 1000)), (0, .ref b)] → W p l e room_1 s m #[Value.ref b] below meth c H locs 600000 7302250 (lw_Z below #[Value.ref b] s) (F0 m 1261 ls [])) {SC SR : sT} {H : Heap} {locs : List Loc} {ls : Array Slot} (hI : Inv SC SR) (hPC : va_P D vwCl (wC h1 cA SC) H) (hPR : va_P D vwCl (wR h2 cA SR) H) (hS : va_S (fun q => s.heap.size ≤ q) s.heap H locs) (hl : lv_has ls 4 [(3, .int (nI i)), (2, .ref (h2 100)), (1, .ref (h1 1000)), (0, .ref b)]) : W p l e room_1 s m #[Value.ref b] below meth c H locs 600000 7302250 (lw_Z below #[Value.ref b] s) (F0 m 317 ls []) := by
  obtain ⟨CF, hr, hX, hbl, hlocks, hK, hz, hk1, hk2, hky1, hky2, hdis⟩ := X
  obtain ⟨hx, hb, hml, hown, hts⟩ := id CF
  have hbA : ¬ (fun q : Nat => s.heap.size ≤ q) b := Nat.not_le.mpr hbl
  refine lv_aload_n hx hb dL_law_317 rfl (lv_at hl 2 rfl) ?_
  refine lv_aload_n hx hb dL_law_318 rfl (lv_at hl 3 rfl) ?_
  refine lv_iload_n hx hb dL_law_319 rfl (lv_at hl 0 rfl) ?_
  refine lv_iconst (v := 1) hx hb dL_law_320 (by decide) ?_
  refine lv_iadd hx hb dL_law_321 ?_
  refine va_sld hx hb hX hbl hbA hS (lw_ix (c := 1) hL hi (by decide)) dL_law_322 ?_
  refine lw_i (n := 1) (rest := []) (w := wC h1 cA) (V := wR h2 cA SR) CF hK hz hk1 hPC hPR (fun i x hx k hk e => by obtain ⟨k2, hk2, e2⟩ := key_of (wR_fst h2 cA SR) hx; exact hdis k hk k2 hk2 (e.symm.trans e2)) hS (c_X4_tear l hky1 _ (hst _ SC SR hI)) (lwG_V lm_L_27 li_X4_tear lx_X4_tear lz_RX4 lc_X4_tear) (by decide +kernel) (oD_at h1 cA _) rfl rfl rfl (Nat.le_of_ble_eq_true rfl) ⟨rfl, rfl⟩ ⟨by decide, by decide⟩ dL_law_323 hl.1 ⟨by decide, by decide⟩ (fun r SC H locs hd hPC hPR hS => ?_)
  refine lv_aload_n hx hb dL_law_326 rfl (lv_at hl 1 rfl) ?_
  refine lv_aload_n hx hb dL_law_327 rfl (lv_at hl 3 rfl) ?_
  refine lv_iload_n hx hb dL_law_328 rfl (lv_at hl 0 rfl) ?_
  refine lv_iconst (v := 1) hx hb dL_law_329 (by decide) ?_
  refine lv_iadd hx hb dL_law_330 ?_
  refine va_sld hx hb hX hbl hbA hS (lw_ix (c := 1) hL hi (by decide)) dL_law_331 ?_
  refine lw_i (n := 1) (rest := [.int r]) (w := wR h2 cA) (V := wC h1 cA SC) (b := false) CF hK (fun _ _ _ _ _ h => by cases h) hk2 hPR hPC (fun i x hx k hk e => by obtain ⟨k2, hk2, e2⟩ := key_of (wC_fst h1 cA SC) hx; exact hdis k2 hk2 k hk (e2.symm.trans e)) hS (c_X5_tear l hky2 _ hd) (lwG_V lm_L_31 li_X5_tear lx_X5_tear lz_RX5 lc_X5_tear) (by decide +kernel) (oR_at h2 cA _) rfl rfl rfl (Nat.le_of_ble_eq_true rfl) ⟨rfl, rfl⟩ ⟨by decide, by decide⟩ dL_law_332 hl.1 ⟨by decide, by decide⟩ (fun r2 SR H locs hd hPR hPC hS => ?_)
  refine lv_icmp_eq (tgt := 1261) hx hb dL_law_335 (by decide) (fun _ => ?_) (fun hc => absurd hd.1 hc)
  exact kn _ _ _ _ _ hd.2 hPC hPR hS hl
set_option maxHeartbeats 4000000 in
set_option maxRecDepth 100000 in
theorem lc_copy {p : Program} {l : Launch} {e : Env} {s : State} {m : MethodId} {below : List Frame} {meth : Method} {c : Code} {b L : Nat} {xs : Nat → Int32} {D : va_G} {cA : Nat → ClassId} {h1 h2 : Nat → Nat} {Inv : sT → sT → Prop} {i : Nat} (hst : st_copy Inv) (hL : L ≤ 384) (hi : i + 6 ≤ L) (X : lwX p s m meth c b L xs D cA h1 h2) (kn : ∀ (SC SR : sT) (H : Heap) (locs : List Loc) (ls : Array Slot), Inv SC SR → va_P D vwCl (wC h1 cA SC) H → va_P D vwCl (wR h2 cA SR) H → va_S (fun q => s.heap.size ≤ q) s.heap H locs → lv_has ls 4 [(3, .int (nI i)), (2, .ref (h2 100)), (1, .ref (h1 1000)), (0, .ref b)] → W p l e room_1 s m #[Value.ref b] below meth c H locs 600000 7302250 (lw_Z below #[Value.ref b] s) (F0 m 1261 ls [])) {SC SR : sT} {H : Heap} {locs : List Loc} {ls : Array Slot} (hI : Inv SC SR) (hPC : va_P D vwCl (wC h1 cA SC) H) (hPR : va_P D vwCl (wR h2 cA SR) H) (hS : va_S (fun q => s.heap.size ≤ q) s.heap H locs) (hl : lv_has ls 4 [(3, .int (nI i)), (2, .ref (h2 100)), (1, .ref (h1 1000)), (0, .ref b)]) : W p l e room_1 s m #[Value.ref b] below meth c H locs 600000 7302250 (lw_Z below #[Value.ref b] s) (F0 m 340 ls []) := by
  obtain ⟨CF, hr, hX, hbl, hlocks, hK, hz, hk1, hk2, hky1, hky2, hdis⟩ := X
  obtain ⟨hx, hb, hml, hown, hts⟩ := id CF
  have hbA : ¬ (fun q : Nat => s.heap.size ≤ q) b := Nat.not_le.mpr hbl
  refine lv_aload_n hx hb dL_law_340 rfl (lv_at hl 2 rfl) ?_
  refine lv_aload_n hx hb dL_law_341 rfl (lv_at hl 3 rfl) ?_
  refine lv_iload_n hx hb dL_law_342 rfl (lv_at hl 0 rfl) ?_
  refine lv_iconst (v := 1) hx hb dL_law_343 (by decide) ?_
  refine lv_iadd hx hb dL_law_344 ?_
  refine va_sld hx hb hX hbl hbA hS (lw_ix (c := 1) hL hi (by decide)) dL_law_345 ?_
  refine lv_aload_n hx hb dL_law_346 rfl (lv_at hl 3 rfl) ?_
  refine lv_iload_n hx hb dL_law_347 rfl (lv_at hl 0 rfl) ?_
  refine lv_iconst (v := 2) hx hb dL_law_348 (by decide) ?_
  refine lv_iadd hx hb dL_law_349 ?_
  refine va_sld hx hb hX hbl hbA hS (lw_ix (c := 2) hL hi (by decide)) dL_law_350 ?_
  refine lv_aload_n hx hb dL_law_351 rfl (lv_at hl 3 rfl) ?_
  refine lv_iload_n hx hb dL_law_352 rfl (lv_at hl 0 rfl) ?_
  refine lv_iconst (v := 3) hx hb dL_law_353 (by decide) ?_
  refine lv_iadd hx hb dL_law_354 ?_
  refine va_sld hx hb hX hbl hbA hS (lw_ix (c := 3) hL hi (by decide)) dL_law_355 ?_
  refine lv_aload_n hx hb dL_law_356 rfl (lv_at hl 3 rfl) ?_
  refine lv_iload_n hx hb dL_law_357 rfl (lv_at hl 0 rfl) ?_
  refine lv_iconst (v := 4) hx hb dL_law_358 (by decide) ?_
  refine lv_iadd hx hb dL_law_359 ?_
  refine va_sld hx hb hX hbl hbA hS (lw_ix (c := 4) hL hi (by decide)) dL_law_360 ?_
  refine lv_aload_n hx hb dL_law_361 rfl (lv_at hl 3 rfl) ?_
  refine lv_iload_n hx hb dL_law_362 rfl (lv_at hl 0 rfl) ?_
  refine lv_iconst (v := 5) hx hb dL_law_363 (by decide) ?_
  refine lv_iadd hx hb dL_law_364 ?_
  refine va_sld hx hb hX hbl hbA hS (lw_ix (c := 5) hL hi (by decide)) dL_law_365 ?_
  refine lw_i (n := 5) (rest := []) (w := wC h1 cA) (V := wR h2 cA SR) CF hK hz hk1 hPC hPR (fun i x hx k hk e => by obtain ⟨k2, hk2, e2⟩ := key_of (wR_fst h2 cA SR) hx; exact hdis k hk k2 hk2 (e.symm.trans e2)) hS (c_X4_copy l hky1 _ (hst _ _ _ _ _ SC SR hI)) (lwG_V lm_L_32 li_X4_copy lx_X4_copy lz_RX4 lc_X4_copy) (by decide +kernel) (oD_at h1 cA _) rfl rfl rfl (Nat.le_of_ble_eq_true rfl) ⟨rfl, rfl⟩ ⟨by decide, by decide⟩ dL_law_366 hl.1 ⟨by decide, by decide⟩ (fun r SC H locs hd hPC hPR hS => ?_)
  refine lv_aload_n hx hb dL_law_369 rfl (lv_at hl 1 rfl) ?_
  refine lv_aload_n hx hb dL_law_370 rfl (lv_at hl 3 rfl) ?_
  refine lv_iload_n hx hb dL_law_371 rfl (lv_at hl 0 rfl) ?_
  refine lv_iconst (v := 1) hx hb dL_law_372 (by decide) ?_
  refine lv_iadd hx hb dL_law_373 ?_
  refine va_sld hx hb hX hbl hbA hS (lw_ix (c := 1) hL hi (by decide)) dL_law_374 ?_
  refine lv_aload_n hx hb dL_law_375 rfl (lv_at hl 3 rfl) ?_
  refine lv_iload_n hx hb dL_law_376 rfl (lv_at hl 0 rfl) ?_
  refine lv_iconst (v := 2) hx hb dL_law_377 (by decide) ?_
  refine lv_iadd hx hb dL_law_378 ?_
  refine va_sld hx hb hX hbl hbA hS (lw_ix (c := 2) hL hi (by decide)) dL_law_379 ?_
  refine lv_aload_n hx hb dL_law_380 rfl (lv_at hl 3 rfl) ?_
  refine lv_iload_n hx hb dL_law_381 rfl (lv_at hl 0 rfl) ?_
  refine lv_iconst (v := 3) hx hb dL_law_382 (by decide) ?_
  refine lv_iadd hx hb dL_law_383 ?_
  refine va_sld hx hb hX hbl hbA hS (lw_ix (c := 3) hL hi (by decide)) dL_law_384 ?_
  refine lv_aload_n hx hb dL_law_385 rfl (lv_at hl 3 rfl) ?_
  refine lv_iload_n hx hb dL_law_386 rfl (lv_at hl 0 rfl) ?_
  refine lv_iconst (v := 4) hx hb dL_law_387 (by decide) ?_
  refine lv_iadd hx hb dL_law_388 ?_
  refine va_sld hx hb hX hbl hbA hS (lw_ix (c := 4) hL hi (by decide)) dL_law_389 ?_
  refine lv_aload_n hx hb dL_law_390 rfl (lv_at hl 3 rfl) ?_
  refine lv_iload_n hx hb dL_law_391 rfl (lv_at hl 0 rfl) ?_
  refine lv_iconst (v := 5) hx hb dL_law_392 (by decide) ?_
  refine lv_iadd hx hb dL_law_393 ?_
  refine va_sld hx hb hX hbl hbA hS (lw_ix (c := 5) hL hi (by decide)) dL_law_394 ?_
  refine lw_i (n := 5) (rest := [.int r]) (w := wR h2 cA) (V := wC h1 cA SC) (b := false) CF hK (fun _ _ _ _ _ h => by cases h) hk2 hPR hPC (fun i x hx k hk e => by obtain ⟨k2, hk2, e2⟩ := key_of (wC_fst h1 cA SC) hx; exact hdis k2 hk2 k hk (e2.symm.trans e)) hS (c_X5_copy l hky2 _ hd) (lwG_V lm_L_36 li_X5_copy lx_X5_copy lz_RX5 lc_X5_copy) (by decide +kernel) (oR_at h2 cA _) rfl rfl rfl (Nat.le_of_ble_eq_true rfl) ⟨rfl, rfl⟩ ⟨by decide, by decide⟩ dL_law_395 hl.1 ⟨by decide, by decide⟩ (fun r2 SR H locs hd hPR hPC hS => ?_)
  refine lv_icmp_eq (tgt := 1261) hx hb dL_law_398 (by decide) (fun _ => ?_) (fun hc => absurd hd.1 hc)
  exact kn _ _ _ _ _ hd.2 hPC hPR hS hl
set_option maxHeartbeats 4000000 in
set_option maxRecDepth 100000 in
theorem lc_mean {p : Program} {l : Launch} {e : Env} {s : State} {m : MethodId} {below : List Frame} {meth : Method} {c : Code} {b L : Nat} {xs : Nat → Int32} {D : va_G} {cA : Nat → ClassId} {h1 h2 : Nat → Nat} {Inv : sT → sT → Prop} {i : Nat} (hst : st_mean Inv) (hL : L ≤ 384) (hi : i + 6 ≤ L) (X : lwX p s m meth c b L xs D cA h1 h2) (kn : ∀ (SC SR : sT) (H : Heap) (locs : List Loc) (ls : Array Slot), Inv SC SR → va_P D vwCl (wC h1 cA SC) H → va_P D vwCl (wR h2 cA SR) H → va_S (fun q => s.heap.size ≤ q) s.heap H locs → lv_has ls 4 [(3, .int (nI i)), (2, .ref (h2 100)), (1, .ref (h1 1000)), (0, .ref b)] → W p l e room_1 s m #[Value.ref b] below meth c H locs 600000 7302250 (lw_Z below #[Value.ref b] s) (F0 m 1261 ls [])) {SC SR : sT} {H : Heap} {locs : List Loc} {ls : Array Slot} (hI : Inv SC SR) (hPC : va_P D vwCl (wC h1 cA SC) H) (hPR : va_P D vwCl (wR h2 cA SR) H) (hS : va_S (fun q => s.heap.size ≤ q) s.heap H locs) (hl : lv_has ls 4 [(3, .int (nI i)), (2, .ref (h2 100)), (1, .ref (h1 1000)), (0, .ref b)]) : W p l e room_1 s m #[Value.ref b] below meth c H locs 600000 7302250 (lw_Z below #[Value.ref b] s) (F0 m 403 ls []) := by
  obtain ⟨CF, hr, hX, hbl, hlocks, hK, hz, hk1, hk2, hky1, hky2, hdis⟩ := X
  obtain ⟨hx, hb, hml, hown, hts⟩ := id CF
  have hbA : ¬ (fun q : Nat => s.heap.size ≤ q) b := Nat.not_le.mpr hbl
  refine lv_aload_n hx hb dL_law_403 rfl (lv_at hl 2 rfl) ?_
  refine lv_aload_n hx hb dL_law_404 rfl (lv_at hl 3 rfl) ?_
  refine lv_iload_n hx hb dL_law_405 rfl (lv_at hl 0 rfl) ?_
  refine lv_iconst (v := 1) hx hb dL_law_406 (by decide) ?_
  refine lv_iadd hx hb dL_law_407 ?_
  refine va_sld hx hb hX hbl hbA hS (lw_ix (c := 1) hL hi (by decide)) dL_law_408 ?_
  refine lw_i (n := 1) (rest := []) (w := wC h1 cA) (V := wR h2 cA SR) CF hK hz hk1 hPC hPR (fun i x hx k hk e => by obtain ⟨k2, hk2, e2⟩ := key_of (wR_fst h2 cA SR) hx; exact hdis k hk k2 hk2 (e.symm.trans e2)) hS (c_X4_mean l hky1 _ (hst _ SC SR hI)) (lwG_V lm_L_37 li_X4_mean lx_X4_mean lz_RX4 lc_X4_mean) (by decide +kernel) (oD_at h1 cA _) rfl rfl rfl (Nat.le_of_ble_eq_true rfl) ⟨rfl, rfl⟩ ⟨by decide, by decide⟩ dL_law_409 hl.1 ⟨by decide, by decide⟩ (fun r SC H locs hd hPC hPR hS => ?_)
  refine lv_aload_n hx hb dL_law_412 rfl (lv_at hl 1 rfl) ?_
  refine lv_aload_n hx hb dL_law_413 rfl (lv_at hl 3 rfl) ?_
  refine lv_iload_n hx hb dL_law_414 rfl (lv_at hl 0 rfl) ?_
  refine lv_iconst (v := 1) hx hb dL_law_415 (by decide) ?_
  refine lv_iadd hx hb dL_law_416 ?_
  refine va_sld hx hb hX hbl hbA hS (lw_ix (c := 1) hL hi (by decide)) dL_law_417 ?_
  refine lw_i (n := 1) (rest := [.int r]) (w := wR h2 cA) (V := wC h1 cA SC) (b := false) CF hK (fun _ _ _ _ _ h => by cases h) hk2 hPR hPC (fun i x hx k hk e => by obtain ⟨k2, hk2, e2⟩ := key_of (wC_fst h1 cA SC) hx; exact hdis k2 hk2 k hk (e2.symm.trans e)) hS (c_X5_mean l hky2 _ hd) (lwG_V lm_L_40 li_X5_mean lx_X5_mean lz_RX5 lc_X5_mean) (by decide +kernel) (oR_at h2 cA _) rfl rfl rfl (Nat.le_of_ble_eq_true rfl) ⟨rfl, rfl⟩ ⟨by decide, by decide⟩ dL_law_418 hl.1 ⟨by decide, by decide⟩ (fun r2 SR H locs hd hPR hPC hS => ?_)
  refine lv_icmp_eq (tgt := 1261) hx hb dL_law_421 (by decide) (fun _ => ?_) (fun hc => absurd hd.1 hc)
  exact kn _ _ _ _ _ hd.2 hPC hPR hS hl
set_option maxHeartbeats 4000000 in
set_option maxRecDepth 100000 in
theorem lc_text {p : Program} {l : Launch} {e : Env} {s : State} {m : MethodId} {below : List Frame} {meth : Method} {c : Code} {b L : Nat} {xs : Nat → Int32} {D : va_G} {cA : Nat → ClassId} {h1 h2 : Nat → Nat} {Inv : sT → sT → Prop} {i : Nat} (hst : st_text Inv) (hL : L ≤ 384) (hi : i + 6 ≤ L) (X : lwX p s m meth c b L xs D cA h1 h2) (kn : ∀ (SC SR : sT) (H : Heap) (locs : List Loc) (ls : Array Slot), Inv SC SR → va_P D vwCl (wC h1 cA SC) H → va_P D vwCl (wR h2 cA SR) H → va_S (fun q => s.heap.size ≤ q) s.heap H locs → lv_has ls 4 [(3, .int (nI i)), (2, .ref (h2 100)), (1, .ref (h1 1000)), (0, .ref b)] → W p l e room_1 s m #[Value.ref b] below meth c H locs 600000 7302250 (lw_Z below #[Value.ref b] s) (F0 m 1261 ls [])) {SC SR : sT} {H : Heap} {locs : List Loc} {ls : Array Slot} (hI : Inv SC SR) (hPC : va_P D vwCl (wC h1 cA SC) H) (hPR : va_P D vwCl (wR h2 cA SR) H) (hS : va_S (fun q => s.heap.size ≤ q) s.heap H locs) (hl : lv_has ls 4 [(3, .int (nI i)), (2, .ref (h2 100)), (1, .ref (h1 1000)), (0, .ref b)]) : W p l e room_1 s m #[Value.ref b] below meth c H locs 600000 7302250 (lw_Z below #[Value.ref b] s) (F0 m 426 ls []) := by
  obtain ⟨CF, hr, hX, hbl, hlocks, hK, hz, hk1, hk2, hky1, hky2, hdis⟩ := X
  obtain ⟨hx, hb, hml, hown, hts⟩ := id CF
  have hbA : ¬ (fun q : Nat => s.heap.size ≤ q) b := Nat.not_le.mpr hbl
  refine lv_aload_n hx hb dL_law_426 rfl (lv_at hl 2 rfl) ?_
  refine lv_aload_n hx hb dL_law_427 rfl (lv_at hl 3 rfl) ?_
  refine lv_iload_n hx hb dL_law_428 rfl (lv_at hl 0 rfl) ?_
  refine lv_iconst (v := 1) hx hb dL_law_429 (by decide) ?_
  refine lv_iadd hx hb dL_law_430 ?_
  refine va_sld hx hb hX hbl hbA hS (lw_ix (c := 1) hL hi (by decide)) dL_law_431 ?_
  refine lv_aload_n hx hb dL_law_432 rfl (lv_at hl 3 rfl) ?_
  refine lv_iload_n hx hb dL_law_433 rfl (lv_at hl 0 rfl) ?_
  refine lv_iconst (v := 2) hx hb dL_law_434 (by decide) ?_
  refine lv_iadd hx hb dL_law_435 ?_
  refine va_sld hx hb hX hbl hbA hS (lw_ix (c := 2) hL hi (by decide)) dL_law_436 ?_
  refine lw_i (n := 2) (rest := []) (w := wC h1 cA) (V := wR h2 cA SR) CF hK hz hk1 hPC hPR (fun i x hx k hk e => by obtain ⟨k2, hk2, e2⟩ := key_of (wR_fst h2 cA SR) hx; exact hdis k hk k2 hk2 (e.symm.trans e2)) hS (c_X4_text l hky1 _ (hst _ _ SC SR hI)) (lwG_V lm_L_41 li_X4_text lx_X4_text lz_RX4 lc_X4_text) (by decide +kernel) (oD_at h1 cA _) rfl rfl rfl (Nat.le_of_ble_eq_true rfl) ⟨rfl, rfl⟩ ⟨by decide, by decide⟩ dL_law_437 hl.1 ⟨by decide, by decide⟩ (fun r SC H locs hd hPC hPR hS => ?_)
  refine lv_aload_n hx hb dL_law_440 rfl (lv_at hl 1 rfl) ?_
  refine lv_aload_n hx hb dL_law_441 rfl (lv_at hl 3 rfl) ?_
  refine lv_iload_n hx hb dL_law_442 rfl (lv_at hl 0 rfl) ?_
  refine lv_iconst (v := 1) hx hb dL_law_443 (by decide) ?_
  refine lv_iadd hx hb dL_law_444 ?_
  refine va_sld hx hb hX hbl hbA hS (lw_ix (c := 1) hL hi (by decide)) dL_law_445 ?_
  refine lv_aload_n hx hb dL_law_446 rfl (lv_at hl 3 rfl) ?_
  refine lv_iload_n hx hb dL_law_447 rfl (lv_at hl 0 rfl) ?_
  refine lv_iconst (v := 2) hx hb dL_law_448 (by decide) ?_
  refine lv_iadd hx hb dL_law_449 ?_
  refine va_sld hx hb hX hbl hbA hS (lw_ix (c := 2) hL hi (by decide)) dL_law_450 ?_
  refine lw_i (n := 2) (rest := [.int r]) (w := wR h2 cA) (V := wC h1 cA SC) (b := false) CF hK (fun _ _ _ _ _ h => by cases h) hk2 hPR hPC (fun i x hx k hk e => by obtain ⟨k2, hk2, e2⟩ := key_of (wC_fst h1 cA SC) hx; exact hdis k2 hk2 k hk (e2.symm.trans e)) hS (c_X5_text l hky2 _ hd) (lwG_V lm_L_44 li_X5_text lx_X5_text lz_RX5 lc_X5_text) (by decide +kernel) (oR_at h2 cA _) rfl rfl rfl (Nat.le_of_ble_eq_true rfl) ⟨rfl, rfl⟩ ⟨by decide, by decide⟩ dL_law_451 hl.1 ⟨by decide, by decide⟩ (fun r2 SR H locs hd hPR hPC hS => ?_)
  refine lv_icmp_eq (tgt := 1261) hx hb dL_law_454 (by decide) (fun _ => ?_) (fun hc => absurd hd.1 hc)
  exact kn _ _ _ _ _ hd.2 hPC hPR hS hl
set_option maxHeartbeats 4000000 in
set_option maxRecDepth 100000 in
theorem lc_put {p : Program} {l : Launch} {e : Env} {s : State} {m : MethodId} {below : List Frame} {meth : Method} {c : Code} {b L : Nat} {xs : Nat → Int32} {D : va_G} {cA : Nat → ClassId} {h1 h2 : Nat → Nat} {Inv : sT → sT → Prop} {i : Nat} (hst : st_put Inv) (hL : L ≤ 384) (hi : i + 6 ≤ L) (X : lwX p s m meth c b L xs D cA h1 h2) (kn : ∀ (SC SR : sT) (H : Heap) (locs : List Loc) (ls : Array Slot), Inv SC SR → va_P D vwCl (wC h1 cA SC) H → va_P D vwCl (wR h2 cA SR) H → va_S (fun q => s.heap.size ≤ q) s.heap H locs → lv_has ls 4 [(3, .int (nI i)), (2, .ref (h2 100)), (1, .ref (h1 1000)), (0, .ref b)] → W p l e room_1 s m #[Value.ref b] below meth c H locs 600000 7302250 (lw_Z below #[Value.ref b] s) (F0 m 1261 ls [])) {SC SR : sT} {H : Heap} {locs : List Loc} {ls : Array Slot} (hI : Inv SC SR) (hPC : va_P D vwCl (wC h1 cA SC) H) (hPR : va_P D vwCl (wR h2 cA SR) H) (hS : va_S (fun q => s.heap.size ≤ q) s.heap H locs) (hl : lv_has ls 4 [(3, .int (nI i)), (2, .ref (h2 100)), (1, .ref (h1 1000)), (0, .ref b)]) : W p l e room_1 s m #[Value.ref b] below meth c H locs 600000 7302250 (lw_Z below #[Value.ref b] s) (F0 m 459 ls []) := by
  obtain ⟨CF, hr, hX, hbl, hlocks, hK, hz, hk1, hk2, hky1, hky2, hdis⟩ := X
  obtain ⟨hx, hb, hml, hown, hts⟩ := id CF
  have hbA : ¬ (fun q : Nat => s.heap.size ≤ q) b := Nat.not_le.mpr hbl
  refine lv_aload_n hx hb dL_law_459 rfl (lv_at hl 2 rfl) ?_
  refine lv_aload_n hx hb dL_law_460 rfl (lv_at hl 3 rfl) ?_
  refine lv_iload_n hx hb dL_law_461 rfl (lv_at hl 0 rfl) ?_
  refine lv_iconst (v := 1) hx hb dL_law_462 (by decide) ?_
  refine lv_iadd hx hb dL_law_463 ?_
  refine va_sld hx hb hX hbl hbA hS (lw_ix (c := 1) hL hi (by decide)) dL_law_464 ?_
  refine lv_aload_n hx hb dL_law_465 rfl (lv_at hl 3 rfl) ?_
  refine lv_iload_n hx hb dL_law_466 rfl (lv_at hl 0 rfl) ?_
  refine lv_iconst (v := 2) hx hb dL_law_467 (by decide) ?_
  refine lv_iadd hx hb dL_law_468 ?_
  refine va_sld hx hb hX hbl hbA hS (lw_ix (c := 2) hL hi (by decide)) dL_law_469 ?_
  refine lv_aload_n hx hb dL_law_470 rfl (lv_at hl 3 rfl) ?_
  refine lv_iload_n hx hb dL_law_471 rfl (lv_at hl 0 rfl) ?_
  refine lv_iconst (v := 3) hx hb dL_law_472 (by decide) ?_
  refine lv_iadd hx hb dL_law_473 ?_
  refine va_sld hx hb hX hbl hbA hS (lw_ix (c := 3) hL hi (by decide)) dL_law_474 ?_
  refine lw_i (n := 3) (rest := []) (w := wC h1 cA) (V := wR h2 cA SR) CF hK hz hk1 hPC hPR (fun i x hx k hk e => by obtain ⟨k2, hk2, e2⟩ := key_of (wR_fst h2 cA SR) hx; exact hdis k hk k2 hk2 (e.symm.trans e2)) hS (c_X4_put l hky1 _ (hst _ _ _ SC SR hI)) (lwG_V lm_L_45 li_X4_put lx_X4_put lz_RX4 lc_X4_put) (by decide +kernel) (oD_at h1 cA _) rfl rfl rfl (Nat.le_of_ble_eq_true rfl) ⟨rfl, rfl⟩ ⟨by decide, by decide⟩ dL_law_475 hl.1 ⟨by decide, by decide⟩ (fun r SC H locs hd hPC hPR hS => ?_)
  refine lv_aload_n hx hb dL_law_478 rfl (lv_at hl 1 rfl) ?_
  refine lv_aload_n hx hb dL_law_479 rfl (lv_at hl 3 rfl) ?_
  refine lv_iload_n hx hb dL_law_480 rfl (lv_at hl 0 rfl) ?_
  refine lv_iconst (v := 1) hx hb dL_law_481 (by decide) ?_
  refine lv_iadd hx hb dL_law_482 ?_
  refine va_sld hx hb hX hbl hbA hS (lw_ix (c := 1) hL hi (by decide)) dL_law_483 ?_
  refine lv_aload_n hx hb dL_law_484 rfl (lv_at hl 3 rfl) ?_
  refine lv_iload_n hx hb dL_law_485 rfl (lv_at hl 0 rfl) ?_
  refine lv_iconst (v := 2) hx hb dL_law_486 (by decide) ?_
  refine lv_iadd hx hb dL_law_487 ?_
  refine va_sld hx hb hX hbl hbA hS (lw_ix (c := 2) hL hi (by decide)) dL_law_488 ?_
  refine lv_aload_n hx hb dL_law_489 rfl (lv_at hl 3 rfl) ?_
  refine lv_iload_n hx hb dL_law_490 rfl (lv_at hl 0 rfl) ?_
  refine lv_iconst (v := 3) hx hb dL_law_491 (by decide) ?_
  refine lv_iadd hx hb dL_law_492 ?_
  refine va_sld hx hb hX hbl hbA hS (lw_ix (c := 3) hL hi (by decide)) dL_law_493 ?_
  refine lw_i (n := 3) (rest := [.int r]) (w := wR h2 cA) (V := wC h1 cA SC) (b := false) CF hK (fun _ _ _ _ _ h => by cases h) hk2 hPR hPC (fun i x hx k hk e => by obtain ⟨k2, hk2, e2⟩ := key_of (wC_fst h1 cA SC) hx; exact hdis k2 hk2 k hk (e2.symm.trans e)) hS (c_X5_put l hky2 _ hd) (lwG_V lm_L_48 li_X5_put lx_X5_put lz_RX5 lc_X5_put) (by decide +kernel) (oR_at h2 cA _) rfl rfl rfl (Nat.le_of_ble_eq_true rfl) ⟨rfl, rfl⟩ ⟨by decide, by decide⟩ dL_law_494 hl.1 ⟨by decide, by decide⟩ (fun r2 SR H locs hd hPR hPC hS => ?_)
  refine lv_icmp_eq (tgt := 1261) hx hb dL_law_497 (by decide) (fun _ => ?_) (fun hc => absurd hd.1 hc)
  exact kn _ _ _ _ _ hd.2 hPC hPR hS hl
set_option maxHeartbeats 4000000 in
set_option maxRecDepth 100000 in
theorem lc_fault {p : Program} {l : Launch} {e : Env} {s : State} {m : MethodId} {below : List Frame} {meth : Method} {c : Code} {b L : Nat} {xs : Nat → Int32} {D : va_G} {cA : Nat → ClassId} {h1 h2 : Nat → Nat} {Inv : sT → sT → Prop} {i : Nat} (hst : st_fault Inv) (hL : L ≤ 384) (hi : i + 6 ≤ L) (X : lwX p s m meth c b L xs D cA h1 h2) (kn : ∀ (SC SR : sT) (H : Heap) (locs : List Loc) (ls : Array Slot), Inv SC SR → va_P D vwCl (wC h1 cA SC) H → va_P D vwCl (wR h2 cA SR) H → va_S (fun q => s.heap.size ≤ q) s.heap H locs → lv_has ls 4 [(3, .int (nI i)), (2, .ref (h2 100)), (1, .ref (h1 1000)), (0, .ref b)] → W p l e room_1 s m #[Value.ref b] below meth c H locs 600000 7302250 (lw_Z below #[Value.ref b] s) (F0 m 1261 ls [])) {SC SR : sT} {H : Heap} {locs : List Loc} {ls : Array Slot} (hI : Inv SC SR) (hPC : va_P D vwCl (wC h1 cA SC) H) (hPR : va_P D vwCl (wR h2 cA SR) H) (hS : va_S (fun q => s.heap.size ≤ q) s.heap H locs) (hl : lv_has ls 4 [(3, .int (nI i)), (2, .ref (h2 100)), (1, .ref (h1 1000)), (0, .ref b)]) : W p l e room_1 s m #[Value.ref b] below meth c H locs 600000 7302250 (lw_Z below #[Value.ref b] s) (F0 m 502 ls []) := by
  obtain ⟨CF, hr, hX, hbl, hlocks, hK, hz, hk1, hk2, hky1, hky2, hdis⟩ := X
  obtain ⟨hx, hb, hml, hown, hts⟩ := id CF
  have hbA : ¬ (fun q : Nat => s.heap.size ≤ q) b := Nat.not_le.mpr hbl
  refine lv_aload_n hx hb dL_law_502 rfl (lv_at hl 2 rfl) ?_
  refine lv_aload_n hx hb dL_law_503 rfl (lv_at hl 3 rfl) ?_
  refine lv_iload_n hx hb dL_law_504 rfl (lv_at hl 0 rfl) ?_
  refine lv_iconst (v := 1) hx hb dL_law_505 (by decide) ?_
  refine lv_iadd hx hb dL_law_506 ?_
  refine va_sld hx hb hX hbl hbA hS (lw_ix (c := 1) hL hi (by decide)) dL_law_507 ?_
  refine lw_i (n := 1) (rest := []) (w := wC h1 cA) (V := wR h2 cA SR) CF hK hz hk1 hPC hPR (fun i x hx k hk e => by obtain ⟨k2, hk2, e2⟩ := key_of (wR_fst h2 cA SR) hx; exact hdis k hk k2 hk2 (e.symm.trans e2)) hS (c_X4_fault l hky1 _ (hst _ SC SR hI)) (lwG_V lm_L_49 li_X4_fault lx_X4_fault lz_RX4 lc_X4_fault) (by decide +kernel) (oD_at h1 cA _) rfl rfl rfl (Nat.le_of_ble_eq_true rfl) ⟨rfl, rfl⟩ ⟨by decide, by decide⟩ dL_law_508 hl.1 ⟨by decide, by decide⟩ (fun r SC H locs hd hPC hPR hS => ?_)
  refine lv_aload_n hx hb dL_law_511 rfl (lv_at hl 1 rfl) ?_
  refine lv_aload_n hx hb dL_law_512 rfl (lv_at hl 3 rfl) ?_
  refine lv_iload_n hx hb dL_law_513 rfl (lv_at hl 0 rfl) ?_
  refine lv_iconst (v := 1) hx hb dL_law_514 (by decide) ?_
  refine lv_iadd hx hb dL_law_515 ?_
  refine va_sld hx hb hX hbl hbA hS (lw_ix (c := 1) hL hi (by decide)) dL_law_516 ?_
  refine lw_i (n := 1) (rest := [.int r]) (w := wR h2 cA) (V := wC h1 cA SC) (b := false) CF hK (fun _ _ _ _ _ h => by cases h) hk2 hPR hPC (fun i x hx k hk e => by obtain ⟨k2, hk2, e2⟩ := key_of (wC_fst h1 cA SC) hx; exact hdis k2 hk2 k hk (e2.symm.trans e)) hS (c_X5_fault l hky2 _ hd) (lwG_V lm_L_52 li_X5_fault lx_X5_fault lz_RX5 lc_X5_fault) (by decide +kernel) (oR_at h2 cA _) rfl rfl rfl (Nat.le_of_ble_eq_true rfl) ⟨rfl, rfl⟩ ⟨by decide, by decide⟩ dL_law_517 hl.1 ⟨by decide, by decide⟩ (fun r2 SR H locs hd hPR hPC hS => ?_)
  refine lv_icmp_eq (tgt := 1261) hx hb dL_law_520 (by decide) (fun _ => ?_) (fun hc => absurd hd.1 hc)
  exact kn _ _ _ _ _ hd.2 hPC hPR hS hl
set_option maxHeartbeats 4000000 in
set_option maxRecDepth 100000 in
theorem lc_line {p : Program} {l : Launch} {e : Env} {s : State} {m : MethodId} {below : List Frame} {meth : Method} {c : Code} {b L : Nat} {xs : Nat → Int32} {D : va_G} {cA : Nat → ClassId} {h1 h2 : Nat → Nat} {Inv : sT → sT → Prop} {i : Nat} (hst : st_line Inv) (hL : L ≤ 384) (hi : i + 6 ≤ L) (X : lwX p s m meth c b L xs D cA h1 h2) (kn : ∀ (SC SR : sT) (H : Heap) (locs : List Loc) (ls : Array Slot), Inv SC SR → va_P D vwCl (wC h1 cA SC) H → va_P D vwCl (wR h2 cA SR) H → va_S (fun q => s.heap.size ≤ q) s.heap H locs → lv_has ls 4 [(3, .int (nI i)), (2, .ref (h2 100)), (1, .ref (h1 1000)), (0, .ref b)] → W p l e room_1 s m #[Value.ref b] below meth c H locs 600000 7302250 (lw_Z below #[Value.ref b] s) (F0 m 1261 ls [])) {SC SR : sT} {H : Heap} {locs : List Loc} {ls : Array Slot} (hI : Inv SC SR) (hPC : va_P D vwCl (wC h1 cA SC) H) (hPR : va_P D vwCl (wR h2 cA SR) H) (hS : va_S (fun q => s.heap.size ≤ q) s.heap H locs) (hl : lv_has ls 4 [(3, .int (nI i)), (2, .ref (h2 100)), (1, .ref (h1 1000)), (0, .ref b)]) : W p l e room_1 s m #[Value.ref b] below meth c H locs 600000 7302250 (lw_Z below #[Value.ref b] s) (F0 m 525 ls []) := by
  obtain ⟨CF, hr, hX, hbl, hlocks, hK, hz, hk1, hk2, hky1, hky2, hdis⟩ := X
  obtain ⟨hx, hb, hml, hown, hts⟩ := id CF
  have hbA : ¬ (fun q : Nat => s.heap.size ≤ q) b := Nat.not_le.mpr hbl
  refine lv_aload_n hx hb dL_law_525 rfl (lv_at hl 2 rfl) ?_
  refine lv_aload_n hx hb dL_law_526 rfl (lv_at hl 3 rfl) ?_
  refine lv_iload_n hx hb dL_law_527 rfl (lv_at hl 0 rfl) ?_
  refine lv_iconst (v := 1) hx hb dL_law_528 (by decide) ?_
  refine lv_iadd hx hb dL_law_529 ?_
  refine va_sld hx hb hX hbl hbA hS (lw_ix (c := 1) hL hi (by decide)) dL_law_530 ?_
  refine lw_i (n := 1) (rest := []) (w := wC h1 cA) (V := wR h2 cA SR) CF hK hz hk1 hPC hPR (fun i x hx k hk e => by obtain ⟨k2, hk2, e2⟩ := key_of (wR_fst h2 cA SR) hx; exact hdis k hk k2 hk2 (e.symm.trans e2)) hS (c_X4_line l hky1 _ (hst _ SC SR hI)) (lwG_V lm_L_53 li_X4_line lx_X4_line lz_RX4 lc_X4_line) (by decide +kernel) (oD_at h1 cA _) rfl rfl rfl (Nat.le_of_ble_eq_true rfl) ⟨rfl, rfl⟩ ⟨by decide, by decide⟩ dL_law_531 hl.1 ⟨by decide, by decide⟩ (fun r SC H locs hd hPC hPR hS => ?_)
  refine lv_aload_n hx hb dL_law_534 rfl (lv_at hl 1 rfl) ?_
  refine lv_aload_n hx hb dL_law_535 rfl (lv_at hl 3 rfl) ?_
  refine lv_iload_n hx hb dL_law_536 rfl (lv_at hl 0 rfl) ?_
  refine lv_iconst (v := 1) hx hb dL_law_537 (by decide) ?_
  refine lv_iadd hx hb dL_law_538 ?_
  refine va_sld hx hb hX hbl hbA hS (lw_ix (c := 1) hL hi (by decide)) dL_law_539 ?_
  refine lw_i (n := 1) (rest := [.int r]) (w := wR h2 cA) (V := wC h1 cA SC) (b := false) CF hK (fun _ _ _ _ _ h => by cases h) hk2 hPR hPC (fun i x hx k hk e => by obtain ⟨k2, hk2, e2⟩ := key_of (wC_fst h1 cA SC) hx; exact hdis k2 hk2 k hk (e2.symm.trans e)) hS (c_X5_line l hky2 _ hd) (lwG_V lm_L_56 li_X5_line lx_X5_line lz_RX5 lc_X5_line) (by decide +kernel) (oR_at h2 cA _) rfl rfl rfl (Nat.le_of_ble_eq_true rfl) ⟨rfl, rfl⟩ ⟨by decide, by decide⟩ dL_law_540 hl.1 ⟨by decide, by decide⟩ (fun r2 SR H locs hd hPR hPC hS => ?_)
  refine lv_icmp_eq (tgt := 1261) hx hb dL_law_543 (by decide) (fun _ => ?_) (fun hc => absurd hd.1 hc)
  exact kn _ _ _ _ _ hd.2 hPC hPR hS hl
set_option maxHeartbeats 4000000 in
set_option maxRecDepth 100000 in
theorem lc_sleeper {p : Program} {l : Launch} {e : Env} {s : State} {m : MethodId} {below : List Frame} {meth : Method} {c : Code} {b L : Nat} {xs : Nat → Int32} {D : va_G} {cA : Nat → ClassId} {h1 h2 : Nat → Nat} {Inv : sT → sT → Prop} {i : Nat} (hst : st_sleeper Inv) (hL : L ≤ 384) (hi : i + 6 ≤ L) (X : lwX p s m meth c b L xs D cA h1 h2) (kn : ∀ (SC SR : sT) (H : Heap) (locs : List Loc) (ls : Array Slot), Inv SC SR → va_P D vwCl (wC h1 cA SC) H → va_P D vwCl (wR h2 cA SR) H → va_S (fun q => s.heap.size ≤ q) s.heap H locs → lv_has ls 4 [(3, .int (nI i)), (2, .ref (h2 100)), (1, .ref (h1 1000)), (0, .ref b)] → W p l e room_1 s m #[Value.ref b] below meth c H locs 600000 7302250 (lw_Z below #[Value.ref b] s) (F0 m 1261 ls [])) {SC SR : sT} {H : Heap} {locs : List Loc} {ls : Array Slot} (hI : Inv SC SR) (hPC : va_P D vwCl (wC h1 cA SC) H) (hPR : va_P D vwCl (wR h2 cA SR) H) (hS : va_S (fun q => s.heap.size ≤ q) s.heap H locs) (hl : lv_has ls 4 [(3, .int (nI i)), (2, .ref (h2 100)), (1, .ref (h1 1000)), (0, .ref b)]) : W p l e room_1 s m #[Value.ref b] below meth c H locs 600000 7302250 (lw_Z below #[Value.ref b] s) (F0 m 548 ls []) := by
  obtain ⟨CF, hr, hX, hbl, hlocks, hK, hz, hk1, hk2, hky1, hky2, hdis⟩ := X
  obtain ⟨hx, hb, hml, hown, hts⟩ := id CF
  have hbA : ¬ (fun q : Nat => s.heap.size ≤ q) b := Nat.not_le.mpr hbl
  refine lv_aload_n hx hb dL_law_548 rfl (lv_at hl 2 rfl) ?_
  refine lv_aload_n hx hb dL_law_549 rfl (lv_at hl 3 rfl) ?_
  refine lv_iload_n hx hb dL_law_550 rfl (lv_at hl 0 rfl) ?_
  refine lv_iconst (v := 1) hx hb dL_law_551 (by decide) ?_
  refine lv_iadd hx hb dL_law_552 ?_
  refine va_sld hx hb hX hbl hbA hS (lw_ix (c := 1) hL hi (by decide)) dL_law_553 ?_
  refine lv_aload_n hx hb dL_law_554 rfl (lv_at hl 3 rfl) ?_
  refine lv_iload_n hx hb dL_law_555 rfl (lv_at hl 0 rfl) ?_
  refine lv_iconst (v := 2) hx hb dL_law_556 (by decide) ?_
  refine lv_iadd hx hb dL_law_557 ?_
  refine va_sld hx hb hX hbl hbA hS (lw_ix (c := 2) hL hi (by decide)) dL_law_558 ?_
  refine lw_i (n := 2) (rest := []) (w := wC h1 cA) (V := wR h2 cA SR) CF hK hz hk1 hPC hPR (fun i x hx k hk e => by obtain ⟨k2, hk2, e2⟩ := key_of (wR_fst h2 cA SR) hx; exact hdis k hk k2 hk2 (e.symm.trans e2)) hS (c_X4_sleeper l hky1 _ (hst _ _ SC SR hI)) (lwG_V lm_L_57 li_X4_sleeper lx_X4_sleeper lz_RX4 lc_X4_sleeper) (by decide +kernel) (oD_at h1 cA _) rfl rfl rfl (Nat.le_of_ble_eq_true rfl) ⟨rfl, rfl⟩ ⟨by decide, by decide⟩ dL_law_559 hl.1 ⟨by decide, by decide⟩ (fun r SC H locs hd hPC hPR hS => ?_)
  refine lv_aload_n hx hb dL_law_562 rfl (lv_at hl 1 rfl) ?_
  refine lv_aload_n hx hb dL_law_563 rfl (lv_at hl 3 rfl) ?_
  refine lv_iload_n hx hb dL_law_564 rfl (lv_at hl 0 rfl) ?_
  refine lv_iconst (v := 1) hx hb dL_law_565 (by decide) ?_
  refine lv_iadd hx hb dL_law_566 ?_
  refine va_sld hx hb hX hbl hbA hS (lw_ix (c := 1) hL hi (by decide)) dL_law_567 ?_
  refine lv_aload_n hx hb dL_law_568 rfl (lv_at hl 3 rfl) ?_
  refine lv_iload_n hx hb dL_law_569 rfl (lv_at hl 0 rfl) ?_
  refine lv_iconst (v := 2) hx hb dL_law_570 (by decide) ?_
  refine lv_iadd hx hb dL_law_571 ?_
  refine va_sld hx hb hX hbl hbA hS (lw_ix (c := 2) hL hi (by decide)) dL_law_572 ?_
  refine lw_i (n := 2) (rest := [.int r]) (w := wR h2 cA) (V := wC h1 cA SC) (b := false) CF hK (fun _ _ _ _ _ h => by cases h) hk2 hPR hPC (fun i x hx k hk e => by obtain ⟨k2, hk2, e2⟩ := key_of (wC_fst h1 cA SC) hx; exact hdis k2 hk2 k hk (e2.symm.trans e)) hS (c_X5_sleeper l hky2 _ hd) (lwG_V lm_L_60 li_X5_sleeper lx_X5_sleeper lz_RX5 lc_X5_sleeper) (by decide +kernel) (oR_at h2 cA _) rfl rfl rfl (Nat.le_of_ble_eq_true rfl) ⟨rfl, rfl⟩ ⟨by decide, by decide⟩ dL_law_573 hl.1 ⟨by decide, by decide⟩ (fun r2 SR H locs hd hPR hPC hS => ?_)
  refine lv_icmp_eq (tgt := 1261) hx hb dL_law_576 (by decide) (fun _ => ?_) (fun hc => absurd hd.1 hc)
  exact kn _ _ _ _ _ hd.2 hPC hPR hS hl
set_option maxHeartbeats 4000000 in
set_option maxRecDepth 100000 in
theorem lc_mark {p : Program} {l : Launch} {e : Env} {s : State} {m : MethodId} {below : List Frame} {meth : Method} {c : Code} {b L : Nat} {xs : Nat → Int32} {D : va_G} {cA : Nat → ClassId} {h1 h2 : Nat → Nat} {Inv : sT → sT → Prop} {i : Nat} (hst : st_mark Inv) (hL : L ≤ 384) (hi : i + 6 ≤ L) (X : lwX p s m meth c b L xs D cA h1 h2) (kn : ∀ (SC SR : sT) (H : Heap) (locs : List Loc) (ls : Array Slot), Inv SC SR → va_P D vwCl (wC h1 cA SC) H → va_P D vwCl (wR h2 cA SR) H → va_S (fun q => s.heap.size ≤ q) s.heap H locs → lv_has ls 4 [(3, .int (nI i)), (2, .ref (h2 100)), (1, .ref (h1 1000)), (0, .ref b)] → W p l e room_1 s m #[Value.ref b] below meth c H locs 600000 7302250 (lw_Z below #[Value.ref b] s) (F0 m 1261 ls [])) {SC SR : sT} {H : Heap} {locs : List Loc} {ls : Array Slot} (hI : Inv SC SR) (hPC : va_P D vwCl (wC h1 cA SC) H) (hPR : va_P D vwCl (wR h2 cA SR) H) (hS : va_S (fun q => s.heap.size ≤ q) s.heap H locs) (hl : lv_has ls 4 [(3, .int (nI i)), (2, .ref (h2 100)), (1, .ref (h1 1000)), (0, .ref b)]) : W p l e room_1 s m #[Value.ref b] below meth c H locs 600000 7302250 (lw_Z below #[Value.ref b] s) (F0 m 581 ls []) := by
  obtain ⟨CF, hr, hX, hbl, hlocks, hK, hz, hk1, hk2, hky1, hky2, hdis⟩ := X
  obtain ⟨hx, hb, hml, hown, hts⟩ := id CF
  have hbA : ¬ (fun q : Nat => s.heap.size ≤ q) b := Nat.not_le.mpr hbl
  refine lv_aload_n hx hb dL_law_581 rfl (lv_at hl 2 rfl) ?_
  refine lv_aload_n hx hb dL_law_582 rfl (lv_at hl 3 rfl) ?_
  refine lv_iload_n hx hb dL_law_583 rfl (lv_at hl 0 rfl) ?_
  refine lv_iconst (v := 1) hx hb dL_law_584 (by decide) ?_
  refine lv_iadd hx hb dL_law_585 ?_
  refine va_sld hx hb hX hbl hbA hS (lw_ix (c := 1) hL hi (by decide)) dL_law_586 ?_
  refine lv_aload_n hx hb dL_law_587 rfl (lv_at hl 3 rfl) ?_
  refine lv_iload_n hx hb dL_law_588 rfl (lv_at hl 0 rfl) ?_
  refine lv_iconst (v := 2) hx hb dL_law_589 (by decide) ?_
  refine lv_iadd hx hb dL_law_590 ?_
  refine va_sld hx hb hX hbl hbA hS (lw_ix (c := 2) hL hi (by decide)) dL_law_591 ?_
  refine lw_i (n := 2) (rest := []) (w := wC h1 cA) (V := wR h2 cA SR) CF hK hz hk1 hPC hPR (fun i x hx k hk e => by obtain ⟨k2, hk2, e2⟩ := key_of (wR_fst h2 cA SR) hx; exact hdis k hk k2 hk2 (e.symm.trans e2)) hS (c_X4_mark l hky1 _ (hst _ _ SC SR hI)) (lwG_V lm_L_61 li_X4_mark lx_X4_mark lz_RX4 lc_X4_mark) (by decide +kernel) (oD_at h1 cA _) rfl rfl rfl (Nat.le_of_ble_eq_true rfl) ⟨rfl, rfl⟩ ⟨by decide, by decide⟩ dL_law_592 hl.1 ⟨by decide, by decide⟩ (fun r SC H locs hd hPC hPR hS => ?_)
  refine lv_aload_n hx hb dL_law_595 rfl (lv_at hl 1 rfl) ?_
  refine lv_aload_n hx hb dL_law_596 rfl (lv_at hl 3 rfl) ?_
  refine lv_iload_n hx hb dL_law_597 rfl (lv_at hl 0 rfl) ?_
  refine lv_iconst (v := 1) hx hb dL_law_598 (by decide) ?_
  refine lv_iadd hx hb dL_law_599 ?_
  refine va_sld hx hb hX hbl hbA hS (lw_ix (c := 1) hL hi (by decide)) dL_law_600 ?_
  refine lv_aload_n hx hb dL_law_601 rfl (lv_at hl 3 rfl) ?_
  refine lv_iload_n hx hb dL_law_602 rfl (lv_at hl 0 rfl) ?_
  refine lv_iconst (v := 2) hx hb dL_law_603 (by decide) ?_
  refine lv_iadd hx hb dL_law_604 ?_
  refine va_sld hx hb hX hbl hbA hS (lw_ix (c := 2) hL hi (by decide)) dL_law_605 ?_
  refine lw_i (n := 2) (rest := [.int r]) (w := wR h2 cA) (V := wC h1 cA SC) (b := false) CF hK (fun _ _ _ _ _ h => by cases h) hk2 hPR hPC (fun i x hx k hk e => by obtain ⟨k2, hk2, e2⟩ := key_of (wC_fst h1 cA SC) hx; exact hdis k2 hk2 k hk (e2.symm.trans e)) hS (c_X5_mark l hky2 _ hd) (lwG_V lm_L_64 li_X5_mark lx_X5_mark lz_RX5 lc_X5_mark) (by decide +kernel) (oR_at h2 cA _) rfl rfl rfl (Nat.le_of_ble_eq_true rfl) ⟨rfl, rfl⟩ ⟨by decide, by decide⟩ dL_law_606 hl.1 ⟨by decide, by decide⟩ (fun r2 SR H locs hd hPR hPC hS => ?_)
  refine lv_icmp_eq (tgt := 1261) hx hb dL_law_609 (by decide) (fun _ => ?_) (fun hc => absurd hd.1 hc)
  exact kn _ _ _ _ _ hd.2 hPC hPR hS hl
set_option maxHeartbeats 4000000 in
set_option maxRecDepth 100000 in
theorem lc_dreams {p : Program} {l : Launch} {e : Env} {s : State} {m : MethodId} {below : List Frame} {meth : Method} {c : Code} {b L : Nat} {xs : Nat → Int32} {D : va_G} {cA : Nat → ClassId} {h1 h2 : Nat → Nat} {Inv : sT → sT → Prop} {i : Nat} (hst : st_dreams Inv) (hL : L ≤ 384) (hi : i + 6 ≤ L) (X : lwX p s m meth c b L xs D cA h1 h2) (kn : ∀ (SC SR : sT) (H : Heap) (locs : List Loc) (ls : Array Slot), Inv SC SR → va_P D vwCl (wC h1 cA SC) H → va_P D vwCl (wR h2 cA SR) H → va_S (fun q => s.heap.size ≤ q) s.heap H locs → lv_has ls 4 [(3, .int (nI i)), (2, .ref (h2 100)), (1, .ref (h1 1000)), (0, .ref b)] → W p l e room_1 s m #[Value.ref b] below meth c H locs 600000 7302250 (lw_Z below #[Value.ref b] s) (F0 m 1261 ls [])) {SC SR : sT} {H : Heap} {locs : List Loc} {ls : Array Slot} (hI : Inv SC SR) (hPC : va_P D vwCl (wC h1 cA SC) H) (hPR : va_P D vwCl (wR h2 cA SR) H) (hS : va_S (fun q => s.heap.size ≤ q) s.heap H locs) (hl : lv_has ls 4 [(3, .int (nI i)), (2, .ref (h2 100)), (1, .ref (h1 1000)), (0, .ref b)]) : W p l e room_1 s m #[Value.ref b] below meth c H locs 600000 7302250 (lw_Z below #[Value.ref b] s) (F0 m 614 ls []) := by
  obtain ⟨CF, hr, hX, hbl, hlocks, hK, hz, hk1, hk2, hky1, hky2, hdis⟩ := X
  obtain ⟨hx, hb, hml, hown, hts⟩ := id CF
  have hbA : ¬ (fun q : Nat => s.heap.size ≤ q) b := Nat.not_le.mpr hbl
  refine lv_aload_n hx hb dL_law_614 rfl (lv_at hl 2 rfl) ?_
  refine lv_aload_n hx hb dL_law_615 rfl (lv_at hl 3 rfl) ?_
  refine lv_iload_n hx hb dL_law_616 rfl (lv_at hl 0 rfl) ?_
  refine lv_iconst (v := 1) hx hb dL_law_617 (by decide) ?_
  refine lv_iadd hx hb dL_law_618 ?_
  refine va_sld hx hb hX hbl hbA hS (lw_ix (c := 1) hL hi (by decide)) dL_law_619 ?_
  refine lv_aload_n hx hb dL_law_620 rfl (lv_at hl 3 rfl) ?_
  refine lv_iload_n hx hb dL_law_621 rfl (lv_at hl 0 rfl) ?_
  refine lv_iconst (v := 2) hx hb dL_law_622 (by decide) ?_
  refine lv_iadd hx hb dL_law_623 ?_
  refine va_sld hx hb hX hbl hbA hS (lw_ix (c := 2) hL hi (by decide)) dL_law_624 ?_
  refine lw_i (n := 2) (rest := []) (w := wC h1 cA) (V := wR h2 cA SR) CF hK hz hk1 hPC hPR (fun i x hx k hk e => by obtain ⟨k2, hk2, e2⟩ := key_of (wR_fst h2 cA SR) hx; exact hdis k hk k2 hk2 (e.symm.trans e2)) hS (c_X4_dreams l hky1 _ (hst _ _ SC SR hI)) (lwG_V lm_L_65 li_X4_dreams lx_X4_dreams lz_RX4 lc_X4_dreams) (by decide +kernel) (oD_at h1 cA _) rfl rfl rfl (Nat.le_of_ble_eq_true rfl) ⟨rfl, rfl⟩ ⟨by decide, by decide⟩ dL_law_625 hl.1 ⟨by decide, by decide⟩ (fun r SC H locs hd hPC hPR hS => ?_)
  refine lv_aload_n hx hb dL_law_628 rfl (lv_at hl 1 rfl) ?_
  refine lv_aload_n hx hb dL_law_629 rfl (lv_at hl 3 rfl) ?_
  refine lv_iload_n hx hb dL_law_630 rfl (lv_at hl 0 rfl) ?_
  refine lv_iconst (v := 1) hx hb dL_law_631 (by decide) ?_
  refine lv_iadd hx hb dL_law_632 ?_
  refine va_sld hx hb hX hbl hbA hS (lw_ix (c := 1) hL hi (by decide)) dL_law_633 ?_
  refine lv_aload_n hx hb dL_law_634 rfl (lv_at hl 3 rfl) ?_
  refine lv_iload_n hx hb dL_law_635 rfl (lv_at hl 0 rfl) ?_
  refine lv_iconst (v := 2) hx hb dL_law_636 (by decide) ?_
  refine lv_iadd hx hb dL_law_637 ?_
  refine va_sld hx hb hX hbl hbA hS (lw_ix (c := 2) hL hi (by decide)) dL_law_638 ?_
  refine lw_i (n := 2) (rest := [.int r]) (w := wR h2 cA) (V := wC h1 cA SC) (b := false) CF hK (fun _ _ _ _ _ h => by cases h) hk2 hPR hPC (fun i x hx k hk e => by obtain ⟨k2, hk2, e2⟩ := key_of (wC_fst h1 cA SC) hx; exact hdis k2 hk2 k hk (e2.symm.trans e)) hS (c_X5_dreams l hky2 _ hd) (lwG_V lm_L_68 li_X5_dreams lx_X5_dreams lz_RX5 lc_X5_dreams) (by decide +kernel) (oR_at h2 cA _) rfl rfl rfl (Nat.le_of_ble_eq_true rfl) ⟨rfl, rfl⟩ ⟨by decide, by decide⟩ dL_law_639 hl.1 ⟨by decide, by decide⟩ (fun r2 SR H locs hd hPR hPC hS => ?_)
  refine lv_icmp_eq (tgt := 1261) hx hb dL_law_642 (by decide) (fun _ => ?_) (fun hc => absurd hd.1 hc)
  exact kn _ _ _ _ _ hd.2 hPC hPR hS hl
set_option maxHeartbeats 4000000 in
set_option maxRecDepth 100000 in
theorem lc_minute {p : Program} {l : Launch} {e : Env} {s : State} {m : MethodId} {below : List Frame} {meth : Method} {c : Code} {b L : Nat} {xs : Nat → Int32} {D : va_G} {cA : Nat → ClassId} {h1 h2 : Nat → Nat} {Inv : sT → sT → Prop} {i : Nat} (hst : st_minute Inv) (hL : L ≤ 384) (hi : i + 6 ≤ L) (X : lwX p s m meth c b L xs D cA h1 h2) (kn : ∀ (SC SR : sT) (H : Heap) (locs : List Loc) (ls : Array Slot), Inv SC SR → va_P D vwCl (wC h1 cA SC) H → va_P D vwCl (wR h2 cA SR) H → va_S (fun q => s.heap.size ≤ q) s.heap H locs → lv_has ls 4 [(3, .int (nI i)), (2, .ref (h2 100)), (1, .ref (h1 1000)), (0, .ref b)] → W p l e room_1 s m #[Value.ref b] below meth c H locs 600000 7302250 (lw_Z below #[Value.ref b] s) (F0 m 1261 ls [])) {SC SR : sT} {H : Heap} {locs : List Loc} {ls : Array Slot} (hI : Inv SC SR) (hPC : va_P D vwCl (wC h1 cA SC) H) (hPR : va_P D vwCl (wR h2 cA SR) H) (hS : va_S (fun q => s.heap.size ≤ q) s.heap H locs) (hl : lv_has ls 4 [(3, .int (nI i)), (2, .ref (h2 100)), (1, .ref (h1 1000)), (0, .ref b)]) : W p l e room_1 s m #[Value.ref b] below meth c H locs 600000 7302250 (lw_Z below #[Value.ref b] s) (F0 m 647 ls []) := by
  obtain ⟨CF, hr, hX, hbl, hlocks, hK, hz, hk1, hk2, hky1, hky2, hdis⟩ := X
  obtain ⟨hx, hb, hml, hown, hts⟩ := id CF
  have hbA : ¬ (fun q : Nat => s.heap.size ≤ q) b := Nat.not_le.mpr hbl
  refine lv_aload_n hx hb dL_law_647 rfl (lv_at hl 2 rfl) ?_
  refine lw_i (n := 0) (rest := []) (w := wC h1 cA) (V := wR h2 cA SR) CF hK hz hk1 hPC hPR (fun i x hx k hk e => by obtain ⟨k2, hk2, e2⟩ := key_of (wR_fst h2 cA SR) hx; exact hdis k hk k2 hk2 (e.symm.trans e2)) hS (c_X4_minute l hky1 _ (hst SC SR hI)) (lwG_V lm_L_69 li_X4_minute lx_X4_minute lz_RX4 lc_X4_minute) (by decide +kernel) (oD_at h1 cA _) rfl rfl rfl (Nat.le_of_ble_eq_true rfl) ⟨rfl, rfl⟩ ⟨by decide, by decide⟩ dL_law_648 hl.1 ⟨by decide, by decide⟩ (fun r SC H locs hd hPC hPR hS => ?_)
  refine lv_aload_n hx hb dL_law_651 rfl (lv_at hl 1 rfl) ?_
  refine lw_i (n := 0) (rest := [.int r]) (w := wR h2 cA) (V := wC h1 cA SC) (b := false) CF hK (fun _ _ _ _ _ h => by cases h) hk2 hPR hPC (fun i x hx k hk e => by obtain ⟨k2, hk2, e2⟩ := key_of (wC_fst h1 cA SC) hx; exact hdis k2 hk2 k hk (e2.symm.trans e)) hS (c_X5_minute l hky2 _ hd) (lwG_V lm_L_73 li_X5_minute lx_X5_minute lz_RX5 lc_X5_minute) (by decide +kernel) (oR_at h2 cA _) rfl rfl rfl (Nat.le_of_ble_eq_true rfl) ⟨rfl, rfl⟩ ⟨by decide, by decide⟩ dL_law_652 hl.1 ⟨by decide, by decide⟩ (fun r2 SR H locs hd hPR hPC hS => ?_)
  refine lv_icmp_eq (tgt := 1261) hx hb dL_law_655 (by decide) (fun _ => ?_) (fun hc => absurd hd.1 hc)
  exact kn _ _ _ _ _ hd.2 hPC hPR hS hl
set_option maxHeartbeats 4000000 in
set_option maxRecDepth 100000 in
theorem lc_feed {p : Program} {l : Launch} {e : Env} {s : State} {m : MethodId} {below : List Frame} {meth : Method} {c : Code} {b L : Nat} {xs : Nat → Int32} {D : va_G} {cA : Nat → ClassId} {h1 h2 : Nat → Nat} {Inv : sT → sT → Prop} {i : Nat} (hst : st_feed Inv) (hL : L ≤ 384) (hi : i + 6 ≤ L) (X : lwX p s m meth c b L xs D cA h1 h2) (kn : ∀ (SC SR : sT) (H : Heap) (locs : List Loc) (ls : Array Slot), Inv SC SR → va_P D vwCl (wC h1 cA SC) H → va_P D vwCl (wR h2 cA SR) H → va_S (fun q => s.heap.size ≤ q) s.heap H locs → lv_has ls 4 [(3, .int (nI i)), (2, .ref (h2 100)), (1, .ref (h1 1000)), (0, .ref b)] → W p l e room_1 s m #[Value.ref b] below meth c H locs 600000 7302250 (lw_Z below #[Value.ref b] s) (F0 m 1261 ls [])) {SC SR : sT} {H : Heap} {locs : List Loc} {ls : Array Slot} (hI : Inv SC SR) (hPC : va_P D vwCl (wC h1 cA SC) H) (hPR : va_P D vwCl (wR h2 cA SR) H) (hS : va_S (fun q => s.heap.size ≤ q) s.heap H locs) (hl : lv_has ls 4 [(3, .int (nI i)), (2, .ref (h2 100)), (1, .ref (h1 1000)), (0, .ref b)]) : W p l e room_1 s m #[Value.ref b] below meth c H locs 600000 7302250 (lw_Z below #[Value.ref b] s) (F0 m 660 ls []) := by
  obtain ⟨CF, hr, hX, hbl, hlocks, hK, hz, hk1, hk2, hky1, hky2, hdis⟩ := X
  obtain ⟨hx, hb, hml, hown, hts⟩ := id CF
  have hbA : ¬ (fun q : Nat => s.heap.size ≤ q) b := Nat.not_le.mpr hbl
  refine lv_aload_n hx hb dL_law_660 rfl (lv_at hl 2 rfl) ?_
  refine lv_aload_n hx hb dL_law_661 rfl (lv_at hl 3 rfl) ?_
  refine lv_iload_n hx hb dL_law_662 rfl (lv_at hl 0 rfl) ?_
  refine lv_iconst (v := 1) hx hb dL_law_663 (by decide) ?_
  refine lv_iadd hx hb dL_law_664 ?_
  refine va_sld hx hb hX hbl hbA hS (lw_ix (c := 1) hL hi (by decide)) dL_law_665 ?_
  refine lv_aload_n hx hb dL_law_666 rfl (lv_at hl 3 rfl) ?_
  refine lv_iload_n hx hb dL_law_667 rfl (lv_at hl 0 rfl) ?_
  refine lv_iconst (v := 2) hx hb dL_law_668 (by decide) ?_
  refine lv_iadd hx hb dL_law_669 ?_
  refine va_sld hx hb hX hbl hbA hS (lw_ix (c := 2) hL hi (by decide)) dL_law_670 ?_
  refine lw_i (n := 2) (rest := []) (w := wC h1 cA) (V := wR h2 cA SR) CF hK hz hk1 hPC hPR (fun i x hx k hk e => by obtain ⟨k2, hk2, e2⟩ := key_of (wR_fst h2 cA SR) hx; exact hdis k hk k2 hk2 (e.symm.trans e2)) hS (c_X4_feed l hky1 _ (hst _ _ SC SR hI)) (lwG_V lm_L_74 li_X4_feed lx_X4_feed lz_RX4 lc_X4_feed) (by decide +kernel) (oD_at h1 cA _) rfl rfl rfl (Nat.le_of_ble_eq_true rfl) ⟨rfl, rfl⟩ ⟨by decide, by decide⟩ dL_law_671 hl.1 ⟨by decide, by decide⟩ (fun r SC H locs hd hPC hPR hS => ?_)
  refine lv_aload_n hx hb dL_law_674 rfl (lv_at hl 1 rfl) ?_
  refine lv_aload_n hx hb dL_law_675 rfl (lv_at hl 3 rfl) ?_
  refine lv_iload_n hx hb dL_law_676 rfl (lv_at hl 0 rfl) ?_
  refine lv_iconst (v := 1) hx hb dL_law_677 (by decide) ?_
  refine lv_iadd hx hb dL_law_678 ?_
  refine va_sld hx hb hX hbl hbA hS (lw_ix (c := 1) hL hi (by decide)) dL_law_679 ?_
  refine lv_aload_n hx hb dL_law_680 rfl (lv_at hl 3 rfl) ?_
  refine lv_iload_n hx hb dL_law_681 rfl (lv_at hl 0 rfl) ?_
  refine lv_iconst (v := 2) hx hb dL_law_682 (by decide) ?_
  refine lv_iadd hx hb dL_law_683 ?_
  refine va_sld hx hb hX hbl hbA hS (lw_ix (c := 2) hL hi (by decide)) dL_law_684 ?_
  refine lw_i (n := 2) (rest := [.int r]) (w := wR h2 cA) (V := wC h1 cA SC) (b := false) CF hK (fun _ _ _ _ _ h => by cases h) hk2 hPR hPC (fun i x hx k hk e => by obtain ⟨k2, hk2, e2⟩ := key_of (wC_fst h1 cA SC) hx; exact hdis k2 hk2 k hk (e2.symm.trans e)) hS (c_X5_feed l hky2 _ hd) (lwG_V lm_L_77 li_X5_feed lx_X5_feed lz_RX5 lc_X5_feed) (by decide +kernel) (oR_at h2 cA _) rfl rfl rfl (Nat.le_of_ble_eq_true rfl) ⟨rfl, rfl⟩ ⟨by decide, by decide⟩ dL_law_685 hl.1 ⟨by decide, by decide⟩ (fun r2 SR H locs hd hPR hPC hS => ?_)
  refine lv_icmp_eq (tgt := 1261) hx hb dL_law_688 (by decide) (fun _ => ?_) (fun hc => absurd hd.1 hc)
  exact kn _ _ _ _ _ hd.2 hPC hPR hS hl
set_option maxHeartbeats 4000000 in
set_option maxRecDepth 100000 in
theorem lc_wake {p : Program} {l : Launch} {e : Env} {s : State} {m : MethodId} {below : List Frame} {meth : Method} {c : Code} {b L : Nat} {xs : Nat → Int32} {D : va_G} {cA : Nat → ClassId} {h1 h2 : Nat → Nat} {Inv : sT → sT → Prop} {i : Nat} (hst : st_wake Inv) (hL : L ≤ 384) (hi : i + 6 ≤ L) (X : lwX p s m meth c b L xs D cA h1 h2) (kn : ∀ (SC SR : sT) (H : Heap) (locs : List Loc) (ls : Array Slot), Inv SC SR → va_P D vwCl (wC h1 cA SC) H → va_P D vwCl (wR h2 cA SR) H → va_S (fun q => s.heap.size ≤ q) s.heap H locs → lv_has ls 4 [(3, .int (nI i)), (2, .ref (h2 100)), (1, .ref (h1 1000)), (0, .ref b)] → W p l e room_1 s m #[Value.ref b] below meth c H locs 600000 7302250 (lw_Z below #[Value.ref b] s) (F0 m 1261 ls [])) {SC SR : sT} {H : Heap} {locs : List Loc} {ls : Array Slot} (hI : Inv SC SR) (hPC : va_P D vwCl (wC h1 cA SC) H) (hPR : va_P D vwCl (wR h2 cA SR) H) (hS : va_S (fun q => s.heap.size ≤ q) s.heap H locs) (hl : lv_has ls 4 [(3, .int (nI i)), (2, .ref (h2 100)), (1, .ref (h1 1000)), (0, .ref b)]) : W p l e room_1 s m #[Value.ref b] below meth c H locs 600000 7302250 (lw_Z below #[Value.ref b] s) (F0 m 693 ls []) := by
  obtain ⟨CF, hr, hX, hbl, hlocks, hK, hz, hk1, hk2, hky1, hky2, hdis⟩ := X
  obtain ⟨hx, hb, hml, hown, hts⟩ := id CF
  have hbA : ¬ (fun q : Nat => s.heap.size ≤ q) b := Nat.not_le.mpr hbl
  refine lv_aload_n hx hb dL_law_693 rfl (lv_at hl 2 rfl) ?_
  refine lv_aload_n hx hb dL_law_694 rfl (lv_at hl 3 rfl) ?_
  refine lv_iload_n hx hb dL_law_695 rfl (lv_at hl 0 rfl) ?_
  refine lv_iconst (v := 1) hx hb dL_law_696 (by decide) ?_
  refine lv_iadd hx hb dL_law_697 ?_
  refine va_sld hx hb hX hbl hbA hS (lw_ix (c := 1) hL hi (by decide)) dL_law_698 ?_
  refine lw_i (n := 1) (rest := []) (w := wC h1 cA) (V := wR h2 cA SR) CF hK hz hk1 hPC hPR (fun i x hx k hk e => by obtain ⟨k2, hk2, e2⟩ := key_of (wR_fst h2 cA SR) hx; exact hdis k hk k2 hk2 (e.symm.trans e2)) hS (c_X4_wake l hky1 _ (hst _ SC SR hI)) (lwG_V lm_L_78 li_X4_wake lx_X4_wake lz_RX4 lc_X4_wake) (by decide +kernel) (oD_at h1 cA _) rfl rfl rfl (Nat.le_of_ble_eq_true rfl) ⟨rfl, rfl⟩ ⟨by decide, by decide⟩ dL_law_699 hl.1 ⟨by decide, by decide⟩ (fun r SC H locs hd hPC hPR hS => ?_)
  refine lv_aload_n hx hb dL_law_702 rfl (lv_at hl 1 rfl) ?_
  refine lv_aload_n hx hb dL_law_703 rfl (lv_at hl 3 rfl) ?_
  refine lv_iload_n hx hb dL_law_704 rfl (lv_at hl 0 rfl) ?_
  refine lv_iconst (v := 1) hx hb dL_law_705 (by decide) ?_
  refine lv_iadd hx hb dL_law_706 ?_
  refine va_sld hx hb hX hbl hbA hS (lw_ix (c := 1) hL hi (by decide)) dL_law_707 ?_
  refine lw_i (n := 1) (rest := [.int r]) (w := wR h2 cA) (V := wC h1 cA SC) (b := false) CF hK (fun _ _ _ _ _ h => by cases h) hk2 hPR hPC (fun i x hx k hk e => by obtain ⟨k2, hk2, e2⟩ := key_of (wC_fst h1 cA SC) hx; exact hdis k2 hk2 k hk (e2.symm.trans e)) hS (c_X5_wake l hky2 _ hd) (lwG_V lm_L_81 li_X5_wake lx_X5_wake lz_RX5 lc_X5_wake) (by decide +kernel) (oR_at h2 cA _) rfl rfl rfl (Nat.le_of_ble_eq_true rfl) ⟨rfl, rfl⟩ ⟨by decide, by decide⟩ dL_law_708 hl.1 ⟨by decide, by decide⟩ (fun r2 SR H locs hd hPR hPC hS => ?_)
  refine lv_icmp_eq (tgt := 1261) hx hb dL_law_711 (by decide) (fun _ => ?_) (fun hc => absurd hd.1 hc)
  exact kn _ _ _ _ _ hd.2 hPC hPR hS hl
set_option maxHeartbeats 4000000 in
set_option maxRecDepth 100000 in
theorem lc_lull {p : Program} {l : Launch} {e : Env} {s : State} {m : MethodId} {below : List Frame} {meth : Method} {c : Code} {b L : Nat} {xs : Nat → Int32} {D : va_G} {cA : Nat → ClassId} {h1 h2 : Nat → Nat} {Inv : sT → sT → Prop} {i : Nat} (hst : st_lull Inv) (hL : L ≤ 384) (hi : i + 6 ≤ L) (X : lwX p s m meth c b L xs D cA h1 h2) (kn : ∀ (SC SR : sT) (H : Heap) (locs : List Loc) (ls : Array Slot), Inv SC SR → va_P D vwCl (wC h1 cA SC) H → va_P D vwCl (wR h2 cA SR) H → va_S (fun q => s.heap.size ≤ q) s.heap H locs → lv_has ls 4 [(3, .int (nI i)), (2, .ref (h2 100)), (1, .ref (h1 1000)), (0, .ref b)] → W p l e room_1 s m #[Value.ref b] below meth c H locs 600000 7302250 (lw_Z below #[Value.ref b] s) (F0 m 1261 ls [])) {SC SR : sT} {H : Heap} {locs : List Loc} {ls : Array Slot} (hI : Inv SC SR) (hPC : va_P D vwCl (wC h1 cA SC) H) (hPR : va_P D vwCl (wR h2 cA SR) H) (hS : va_S (fun q => s.heap.size ≤ q) s.heap H locs) (hl : lv_has ls 4 [(3, .int (nI i)), (2, .ref (h2 100)), (1, .ref (h1 1000)), (0, .ref b)]) : W p l e room_1 s m #[Value.ref b] below meth c H locs 600000 7302250 (lw_Z below #[Value.ref b] s) (F0 m 716 ls []) := by
  obtain ⟨CF, hr, hX, hbl, hlocks, hK, hz, hk1, hk2, hky1, hky2, hdis⟩ := X
  obtain ⟨hx, hb, hml, hown, hts⟩ := id CF
  have hbA : ¬ (fun q : Nat => s.heap.size ≤ q) b := Nat.not_le.mpr hbl
  refine lv_aload_n hx hb dL_law_716 rfl (lv_at hl 2 rfl) ?_
  refine lv_aload_n hx hb dL_law_717 rfl (lv_at hl 3 rfl) ?_
  refine lv_iload_n hx hb dL_law_718 rfl (lv_at hl 0 rfl) ?_
  refine lv_iconst (v := 1) hx hb dL_law_719 (by decide) ?_
  refine lv_iadd hx hb dL_law_720 ?_
  refine va_sld hx hb hX hbl hbA hS (lw_ix (c := 1) hL hi (by decide)) dL_law_721 ?_
  refine lw_i (n := 1) (rest := []) (w := wC h1 cA) (V := wR h2 cA SR) CF hK hz hk1 hPC hPR (fun i x hx k hk e => by obtain ⟨k2, hk2, e2⟩ := key_of (wR_fst h2 cA SR) hx; exact hdis k hk k2 hk2 (e.symm.trans e2)) hS (c_X4_lull l hky1 _ (hst _ SC SR hI)) (lwG_V lm_L_82 li_X4_lull lx_X4_lull lz_RX4 lc_X4_lull) (by decide +kernel) (oD_at h1 cA _) rfl rfl rfl (Nat.le_of_ble_eq_true rfl) ⟨rfl, rfl⟩ ⟨by decide, by decide⟩ dL_law_722 hl.1 ⟨by decide, by decide⟩ (fun r SC H locs hd hPC hPR hS => ?_)
  refine lv_aload_n hx hb dL_law_725 rfl (lv_at hl 1 rfl) ?_
  refine lv_aload_n hx hb dL_law_726 rfl (lv_at hl 3 rfl) ?_
  refine lv_iload_n hx hb dL_law_727 rfl (lv_at hl 0 rfl) ?_
  refine lv_iconst (v := 1) hx hb dL_law_728 (by decide) ?_
  refine lv_iadd hx hb dL_law_729 ?_
  refine va_sld hx hb hX hbl hbA hS (lw_ix (c := 1) hL hi (by decide)) dL_law_730 ?_
  refine lw_i (n := 1) (rest := [.int r]) (w := wR h2 cA) (V := wC h1 cA SC) (b := false) CF hK (fun _ _ _ _ _ h => by cases h) hk2 hPR hPC (fun i x hx k hk e => by obtain ⟨k2, hk2, e2⟩ := key_of (wC_fst h1 cA SC) hx; exact hdis k2 hk2 k hk (e2.symm.trans e)) hS (c_X5_lull l hky2 _ hd) (lwG_V lm_L_85 li_X5_lull lx_X5_lull lz_RX5 lc_X5_lull) (by decide +kernel) (oR_at h2 cA _) rfl rfl rfl (Nat.le_of_ble_eq_true rfl) ⟨rfl, rfl⟩ ⟨by decide, by decide⟩ dL_law_731 hl.1 ⟨by decide, by decide⟩ (fun r2 SR H locs hd hPR hPC hS => ?_)
  refine lv_icmp_eq (tgt := 1261) hx hb dL_law_734 (by decide) (fun _ => ?_) (fun hc => absurd hd.1 hc)
  exact kn _ _ _ _ _ hd.2 hPC hPR hS hl
set_option maxHeartbeats 4000000 in
set_option maxRecDepth 100000 in
theorem lc_undo {p : Program} {l : Launch} {e : Env} {s : State} {m : MethodId} {below : List Frame} {meth : Method} {c : Code} {b L : Nat} {xs : Nat → Int32} {D : va_G} {cA : Nat → ClassId} {h1 h2 : Nat → Nat} {Inv : sT → sT → Prop} {i : Nat} (hst : st_undo Inv) (hL : L ≤ 384) (hi : i + 6 ≤ L) (X : lwX p s m meth c b L xs D cA h1 h2) (kn : ∀ (SC SR : sT) (H : Heap) (locs : List Loc) (ls : Array Slot), Inv SC SR → va_P D vwCl (wC h1 cA SC) H → va_P D vwCl (wR h2 cA SR) H → va_S (fun q => s.heap.size ≤ q) s.heap H locs → lv_has ls 4 [(3, .int (nI i)), (2, .ref (h2 100)), (1, .ref (h1 1000)), (0, .ref b)] → W p l e room_1 s m #[Value.ref b] below meth c H locs 600000 7302250 (lw_Z below #[Value.ref b] s) (F0 m 1261 ls [])) {SC SR : sT} {H : Heap} {locs : List Loc} {ls : Array Slot} (hI : Inv SC SR) (hPC : va_P D vwCl (wC h1 cA SC) H) (hPR : va_P D vwCl (wR h2 cA SR) H) (hS : va_S (fun q => s.heap.size ≤ q) s.heap H locs) (hl : lv_has ls 4 [(3, .int (nI i)), (2, .ref (h2 100)), (1, .ref (h1 1000)), (0, .ref b)]) : W p l e room_1 s m #[Value.ref b] below meth c H locs 600000 7302250 (lw_Z below #[Value.ref b] s) (F0 m 739 ls []) := by
  obtain ⟨CF, hr, hX, hbl, hlocks, hK, hz, hk1, hk2, hky1, hky2, hdis⟩ := X
  obtain ⟨hx, hb, hml, hown, hts⟩ := id CF
  have hbA : ¬ (fun q : Nat => s.heap.size ≤ q) b := Nat.not_le.mpr hbl
  refine lv_aload_n hx hb dL_law_739 rfl (lv_at hl 2 rfl) ?_
  refine lv_aload_n hx hb dL_law_740 rfl (lv_at hl 3 rfl) ?_
  refine lv_iload_n hx hb dL_law_741 rfl (lv_at hl 0 rfl) ?_
  refine lv_iconst (v := 1) hx hb dL_law_742 (by decide) ?_
  refine lv_iadd hx hb dL_law_743 ?_
  refine va_sld hx hb hX hbl hbA hS (lw_ix (c := 1) hL hi (by decide)) dL_law_744 ?_
  refine lw_i (n := 1) (rest := []) (w := wC h1 cA) (V := wR h2 cA SR) CF hK hz hk1 hPC hPR (fun i x hx k hk e => by obtain ⟨k2, hk2, e2⟩ := key_of (wR_fst h2 cA SR) hx; exact hdis k hk k2 hk2 (e.symm.trans e2)) hS (c_X4_undo l hky1 _ (hst _ SC SR hI)) (lwG_V lm_L_86 li_X4_undo lx_X4_undo lz_RX4 lc_X4_undo) (by decide +kernel) (oD_at h1 cA _) rfl rfl rfl (Nat.le_of_ble_eq_true rfl) ⟨rfl, rfl⟩ ⟨by decide, by decide⟩ dL_law_745 hl.1 ⟨by decide, by decide⟩ (fun r SC H locs hd hPC hPR hS => ?_)
  refine lv_aload_n hx hb dL_law_748 rfl (lv_at hl 1 rfl) ?_
  refine lv_aload_n hx hb dL_law_749 rfl (lv_at hl 3 rfl) ?_
  refine lv_iload_n hx hb dL_law_750 rfl (lv_at hl 0 rfl) ?_
  refine lv_iconst (v := 1) hx hb dL_law_751 (by decide) ?_
  refine lv_iadd hx hb dL_law_752 ?_
  refine va_sld hx hb hX hbl hbA hS (lw_ix (c := 1) hL hi (by decide)) dL_law_753 ?_
  refine lw_i (n := 1) (rest := [.int r]) (w := wR h2 cA) (V := wC h1 cA SC) (b := false) CF hK (fun _ _ _ _ _ h => by cases h) hk2 hPR hPC (fun i x hx k hk e => by obtain ⟨k2, hk2, e2⟩ := key_of (wC_fst h1 cA SC) hx; exact hdis k2 hk2 k hk (e2.symm.trans e)) hS (c_X5_undo l hky2 _ hd) (lwG_V lm_L_89 li_X5_undo lx_X5_undo lz_RX5 lc_X5_undo) (by decide +kernel) (oR_at h2 cA _) rfl rfl rfl (Nat.le_of_ble_eq_true rfl) ⟨rfl, rfl⟩ ⟨by decide, by decide⟩ dL_law_754 hl.1 ⟨by decide, by decide⟩ (fun r2 SR H locs hd hPR hPC hS => ?_)
  refine lv_icmp_eq (tgt := 1261) hx hb dL_law_757 (by decide) (fun _ => ?_) (fun hc => absurd hd.1 hc)
  exact kn _ _ _ _ _ hd.2 hPC hPR hS hl
set_option maxHeartbeats 4000000 in
set_option maxRecDepth 100000 in
theorem lc_keep {p : Program} {l : Launch} {e : Env} {s : State} {m : MethodId} {below : List Frame} {meth : Method} {c : Code} {b L : Nat} {xs : Nat → Int32} {D : va_G} {cA : Nat → ClassId} {h1 h2 : Nat → Nat} {Inv : sT → sT → Prop} {i : Nat} (hst : st_keep Inv) (hL : L ≤ 384) (hi : i + 6 ≤ L) (X : lwX p s m meth c b L xs D cA h1 h2) (kn : ∀ (SC SR : sT) (H : Heap) (locs : List Loc) (ls : Array Slot), Inv SC SR → va_P D vwCl (wC h1 cA SC) H → va_P D vwCl (wR h2 cA SR) H → va_S (fun q => s.heap.size ≤ q) s.heap H locs → lv_has ls 4 [(3, .int (nI i)), (2, .ref (h2 100)), (1, .ref (h1 1000)), (0, .ref b)] → W p l e room_1 s m #[Value.ref b] below meth c H locs 600000 7302250 (lw_Z below #[Value.ref b] s) (F0 m 1261 ls [])) {SC SR : sT} {H : Heap} {locs : List Loc} {ls : Array Slot} (hI : Inv SC SR) (hPC : va_P D vwCl (wC h1 cA SC) H) (hPR : va_P D vwCl (wR h2 cA SR) H) (hS : va_S (fun q => s.heap.size ≤ q) s.heap H locs) (hl : lv_has ls 4 [(3, .int (nI i)), (2, .ref (h2 100)), (1, .ref (h1 1000)), (0, .ref b)]) : W p l e room_1 s m #[Value.ref b] below meth c H locs 600000 7302250 (lw_Z below #[Value.ref b] s) (F0 m 762 ls []) := by
  obtain ⟨CF, hr, hX, hbl, hlocks, hK, hz, hk1, hk2, hky1, hky2, hdis⟩ := X
  obtain ⟨hx, hb, hml, hown, hts⟩ := id CF
  have hbA : ¬ (fun q : Nat => s.heap.size ≤ q) b := Nat.not_le.mpr hbl
  refine lv_aload_n hx hb dL_law_762 rfl (lv_at hl 2 rfl) ?_
  refine lv_aload_n hx hb dL_law_763 rfl (lv_at hl 3 rfl) ?_
  refine lv_iload_n hx hb dL_law_764 rfl (lv_at hl 0 rfl) ?_
  refine lv_iconst (v := 1) hx hb dL_law_765 (by decide) ?_
  refine lv_iadd hx hb dL_law_766 ?_
  refine va_sld hx hb hX hbl hbA hS (lw_ix (c := 1) hL hi (by decide)) dL_law_767 ?_
  refine lw_i (n := 1) (rest := []) (w := wC h1 cA) (V := wR h2 cA SR) CF hK hz hk1 hPC hPR (fun i x hx k hk e => by obtain ⟨k2, hk2, e2⟩ := key_of (wR_fst h2 cA SR) hx; exact hdis k hk k2 hk2 (e.symm.trans e2)) hS (c_X4_keep l hky1 _ (hst _ SC SR hI)) (lwG_V lm_L_90 li_X4_keep lx_X4_keep lz_RX4 lc_X4_keep) (by decide +kernel) (oD_at h1 cA _) rfl rfl rfl (Nat.le_of_ble_eq_true rfl) ⟨rfl, rfl⟩ ⟨by decide, by decide⟩ dL_law_768 hl.1 ⟨by decide, by decide⟩ (fun r SC H locs hd hPC hPR hS => ?_)
  refine lv_aload_n hx hb dL_law_771 rfl (lv_at hl 1 rfl) ?_
  refine lv_aload_n hx hb dL_law_772 rfl (lv_at hl 3 rfl) ?_
  refine lv_iload_n hx hb dL_law_773 rfl (lv_at hl 0 rfl) ?_
  refine lv_iconst (v := 1) hx hb dL_law_774 (by decide) ?_
  refine lv_iadd hx hb dL_law_775 ?_
  refine va_sld hx hb hX hbl hbA hS (lw_ix (c := 1) hL hi (by decide)) dL_law_776 ?_
  refine lw_i (n := 1) (rest := [.int r]) (w := wR h2 cA) (V := wC h1 cA SC) (b := false) CF hK (fun _ _ _ _ _ h => by cases h) hk2 hPR hPC (fun i x hx k hk e => by obtain ⟨k2, hk2, e2⟩ := key_of (wC_fst h1 cA SC) hx; exact hdis k2 hk2 k hk (e2.symm.trans e)) hS (c_X5_keep l hky2 _ hd) (lwG_V lm_L_93 li_X5_keep lx_X5_keep lz_RX5 lc_X5_keep) (by decide +kernel) (oR_at h2 cA _) rfl rfl rfl (Nat.le_of_ble_eq_true rfl) ⟨rfl, rfl⟩ ⟨by decide, by decide⟩ dL_law_777 hl.1 ⟨by decide, by decide⟩ (fun r2 SR H locs hd hPR hPC hS => ?_)
  refine lv_icmp_eq (tgt := 1261) hx hb dL_law_780 (by decide) (fun _ => ?_) (fun hc => absurd hd.1 hc)
  exact kn _ _ _ _ _ hd.2 hPC hPR hS hl
set_option maxHeartbeats 4000000 in
set_option maxRecDepth 100000 in
theorem lc_on {p : Program} {l : Launch} {e : Env} {s : State} {m : MethodId} {below : List Frame} {meth : Method} {c : Code} {b L : Nat} {xs : Nat → Int32} {D : va_G} {cA : Nat → ClassId} {h1 h2 : Nat → Nat} {Inv : sT → sT → Prop} {i : Nat} (hst : st_on Inv) (hL : L ≤ 384) (hi : i + 6 ≤ L) (X : lwX p s m meth c b L xs D cA h1 h2) (kn : ∀ (SC SR : sT) (H : Heap) (locs : List Loc) (ls : Array Slot), Inv SC SR → va_P D vwCl (wC h1 cA SC) H → va_P D vwCl (wR h2 cA SR) H → va_S (fun q => s.heap.size ≤ q) s.heap H locs → lv_has ls 4 [(3, .int (nI i)), (2, .ref (h2 100)), (1, .ref (h1 1000)), (0, .ref b)] → W p l e room_1 s m #[Value.ref b] below meth c H locs 600000 7302250 (lw_Z below #[Value.ref b] s) (F0 m 1261 ls [])) {SC SR : sT} {H : Heap} {locs : List Loc} {ls : Array Slot} (hI : Inv SC SR) (hPC : va_P D vwCl (wC h1 cA SC) H) (hPR : va_P D vwCl (wR h2 cA SR) H) (hS : va_S (fun q => s.heap.size ≤ q) s.heap H locs) (hl : lv_has ls 4 [(3, .int (nI i)), (2, .ref (h2 100)), (1, .ref (h1 1000)), (0, .ref b)]) : W p l e room_1 s m #[Value.ref b] below meth c H locs 600000 7302250 (lw_Z below #[Value.ref b] s) (F0 m 785 ls []) := by
  obtain ⟨CF, hr, hX, hbl, hlocks, hK, hz, hk1, hk2, hky1, hky2, hdis⟩ := X
  obtain ⟨hx, hb, hml, hown, hts⟩ := id CF
  have hbA : ¬ (fun q : Nat => s.heap.size ≤ q) b := Nat.not_le.mpr hbl
  refine lv_aload_n hx hb dL_law_785 rfl (lv_at hl 2 rfl) ?_
  refine lv_aload_n hx hb dL_law_786 rfl (lv_at hl 3 rfl) ?_
  refine lv_iload_n hx hb dL_law_787 rfl (lv_at hl 0 rfl) ?_
  refine lv_iconst (v := 1) hx hb dL_law_788 (by decide) ?_
  refine lv_iadd hx hb dL_law_789 ?_
  refine va_sld hx hb hX hbl hbA hS (lw_ix (c := 1) hL hi (by decide)) dL_law_790 ?_
  refine lw_i (n := 1) (rest := []) (w := wC h1 cA) (V := wR h2 cA SR) CF hK hz hk1 hPC hPR (fun i x hx k hk e => by obtain ⟨k2, hk2, e2⟩ := key_of (wR_fst h2 cA SR) hx; exact hdis k hk k2 hk2 (e.symm.trans e2)) hS (c_X4_on l hky1 _ (hst _ SC SR hI)) (lwG_V lm_L_94 li_X4_on lx_X4_on lz_RX4 lc_X4_on) (by decide +kernel) (oD_at h1 cA _) rfl rfl rfl (Nat.le_of_ble_eq_true rfl) ⟨rfl, rfl⟩ ⟨by decide, by decide⟩ dL_law_791 hl.1 ⟨by decide, by decide⟩ (fun r SC H locs hd hPC hPR hS => ?_)
  refine lv_aload_n hx hb dL_law_794 rfl (lv_at hl 1 rfl) ?_
  refine lv_aload_n hx hb dL_law_795 rfl (lv_at hl 3 rfl) ?_
  refine lv_iload_n hx hb dL_law_796 rfl (lv_at hl 0 rfl) ?_
  refine lv_iconst (v := 1) hx hb dL_law_797 (by decide) ?_
  refine lv_iadd hx hb dL_law_798 ?_
  refine va_sld hx hb hX hbl hbA hS (lw_ix (c := 1) hL hi (by decide)) dL_law_799 ?_
  refine lw_i (n := 1) (rest := [.int r]) (w := wR h2 cA) (V := wC h1 cA SC) (b := false) CF hK (fun _ _ _ _ _ h => by cases h) hk2 hPR hPC (fun i x hx k hk e => by obtain ⟨k2, hk2, e2⟩ := key_of (wC_fst h1 cA SC) hx; exact hdis k2 hk2 k hk (e2.symm.trans e)) hS (c_X5_on l hky2 _ hd) (lwG_V lm_L_97 li_X5_on lx_X5_on lz_RX5 lc_X5_on) (by decide +kernel) (oR_at h2 cA _) rfl rfl rfl (Nat.le_of_ble_eq_true rfl) ⟨rfl, rfl⟩ ⟨by decide, by decide⟩ dL_law_800 hl.1 ⟨by decide, by decide⟩ (fun r2 SR H locs hd hPR hPC hS => ?_)
  refine lv_icmp_eq (tgt := 1261) hx hb dL_law_803 (by decide) (fun _ => ?_) (fun hc => absurd hd.1 hc)
  exact kn _ _ _ _ _ hd.2 hPC hPR hS hl
set_option maxHeartbeats 4000000 in
set_option maxRecDepth 100000 in
theorem lc_train {p : Program} {l : Launch} {e : Env} {s : State} {m : MethodId} {below : List Frame} {meth : Method} {c : Code} {b L : Nat} {xs : Nat → Int32} {D : va_G} {cA : Nat → ClassId} {h1 h2 : Nat → Nat} {Inv : sT → sT → Prop} {i : Nat} (hst : st_train Inv) (hL : L ≤ 384) (hi : i + 6 ≤ L) (X : lwX p s m meth c b L xs D cA h1 h2) (kn : ∀ (SC SR : sT) (H : Heap) (locs : List Loc) (ls : Array Slot), Inv SC SR → va_P D vwCl (wC h1 cA SC) H → va_P D vwCl (wR h2 cA SR) H → va_S (fun q => s.heap.size ≤ q) s.heap H locs → lv_has ls 4 [(3, .int (nI i)), (2, .ref (h2 100)), (1, .ref (h1 1000)), (0, .ref b)] → W p l e room_1 s m #[Value.ref b] below meth c H locs 600000 7302250 (lw_Z below #[Value.ref b] s) (F0 m 1261 ls [])) {SC SR : sT} {H : Heap} {locs : List Loc} {ls : Array Slot} (hI : Inv SC SR) (hPC : va_P D vwCl (wC h1 cA SC) H) (hPR : va_P D vwCl (wR h2 cA SR) H) (hS : va_S (fun q => s.heap.size ≤ q) s.heap H locs) (hl : lv_has ls 4 [(3, .int (nI i)), (2, .ref (h2 100)), (1, .ref (h1 1000)), (0, .ref b)]) : W p l e room_1 s m #[Value.ref b] below meth c H locs 600000 7302250 (lw_Z below #[Value.ref b] s) (F0 m 808 ls []) := by
  obtain ⟨CF, hr, hX, hbl, hlocks, hK, hz, hk1, hk2, hky1, hky2, hdis⟩ := X
  obtain ⟨hx, hb, hml, hown, hts⟩ := id CF
  have hbA : ¬ (fun q : Nat => s.heap.size ≤ q) b := Nat.not_le.mpr hbl
  refine lv_aload_n hx hb dL_law_808 rfl (lv_at hl 2 rfl) ?_
  refine lv_aload_n hx hb dL_law_809 rfl (lv_at hl 3 rfl) ?_
  refine lv_iload_n hx hb dL_law_810 rfl (lv_at hl 0 rfl) ?_
  refine lv_iconst (v := 1) hx hb dL_law_811 (by decide) ?_
  refine lv_iadd hx hb dL_law_812 ?_
  refine va_sld hx hb hX hbl hbA hS (lw_ix (c := 1) hL hi (by decide)) dL_law_813 ?_
  refine lw_i (n := 1) (rest := []) (w := wC h1 cA) (V := wR h2 cA SR) CF hK hz hk1 hPC hPR (fun i x hx k hk e => by obtain ⟨k2, hk2, e2⟩ := key_of (wR_fst h2 cA SR) hx; exact hdis k hk k2 hk2 (e.symm.trans e2)) hS (c_X4_train l hky1 _ (hst _ SC SR hI)) (lwG_V lm_L_98 li_X4_train lx_X4_train lz_RX4 lc_X4_train) (by decide +kernel) (oD_at h1 cA _) rfl rfl rfl (Nat.le_of_ble_eq_true rfl) ⟨rfl, rfl⟩ ⟨by decide, by decide⟩ dL_law_814 hl.1 ⟨by decide, by decide⟩ (fun r SC H locs hd hPC hPR hS => ?_)
  refine lv_aload_n hx hb dL_law_817 rfl (lv_at hl 1 rfl) ?_
  refine lv_aload_n hx hb dL_law_818 rfl (lv_at hl 3 rfl) ?_
  refine lv_iload_n hx hb dL_law_819 rfl (lv_at hl 0 rfl) ?_
  refine lv_iconst (v := 1) hx hb dL_law_820 (by decide) ?_
  refine lv_iadd hx hb dL_law_821 ?_
  refine va_sld hx hb hX hbl hbA hS (lw_ix (c := 1) hL hi (by decide)) dL_law_822 ?_
  refine lw_i (n := 1) (rest := [.int r]) (w := wR h2 cA) (V := wC h1 cA SC) (b := false) CF hK (fun _ _ _ _ _ h => by cases h) hk2 hPR hPC (fun i x hx k hk e => by obtain ⟨k2, hk2, e2⟩ := key_of (wC_fst h1 cA SC) hx; exact hdis k2 hk2 k hk (e2.symm.trans e)) hS (c_X5_train l hky2 _ hd) (lwG_V lm_L_101 li_X5_train lx_X5_train lz_RX5 lc_X5_train) (by decide +kernel) (oR_at h2 cA _) rfl rfl rfl (Nat.le_of_ble_eq_true rfl) ⟨rfl, rfl⟩ ⟨by decide, by decide⟩ dL_law_823 hl.1 ⟨by decide, by decide⟩ (fun r2 SR H locs hd hPR hPC hS => ?_)
  refine lv_icmp_eq (tgt := 1261) hx hb dL_law_826 (by decide) (fun _ => ?_) (fun hc => absurd hd.1 hc)
  exact kn _ _ _ _ _ hd.2 hPC hPR hS hl
set_option maxHeartbeats 4000000 in
set_option maxRecDepth 100000 in
theorem lc_comes {p : Program} {l : Launch} {e : Env} {s : State} {m : MethodId} {below : List Frame} {meth : Method} {c : Code} {b L : Nat} {xs : Nat → Int32} {D : va_G} {cA : Nat → ClassId} {h1 h2 : Nat → Nat} {Inv : sT → sT → Prop} {i : Nat} (hst : st_comes Inv) (hL : L ≤ 384) (hi : i + 6 ≤ L) (X : lwX p s m meth c b L xs D cA h1 h2) (kn : ∀ (SC SR : sT) (H : Heap) (locs : List Loc) (ls : Array Slot), Inv SC SR → va_P D vwCl (wC h1 cA SC) H → va_P D vwCl (wR h2 cA SR) H → va_S (fun q => s.heap.size ≤ q) s.heap H locs → lv_has ls 4 [(3, .int (nI i)), (2, .ref (h2 100)), (1, .ref (h1 1000)), (0, .ref b)] → W p l e room_1 s m #[Value.ref b] below meth c H locs 600000 7302250 (lw_Z below #[Value.ref b] s) (F0 m 1261 ls [])) {SC SR : sT} {H : Heap} {locs : List Loc} {ls : Array Slot} (hI : Inv SC SR) (hPC : va_P D vwCl (wC h1 cA SC) H) (hPR : va_P D vwCl (wR h2 cA SR) H) (hS : va_S (fun q => s.heap.size ≤ q) s.heap H locs) (hl : lv_has ls 4 [(3, .int (nI i)), (2, .ref (h2 100)), (1, .ref (h1 1000)), (0, .ref b)]) : W p l e room_1 s m #[Value.ref b] below meth c H locs 600000 7302250 (lw_Z below #[Value.ref b] s) (F0 m 831 ls []) := by
  obtain ⟨CF, hr, hX, hbl, hlocks, hK, hz, hk1, hk2, hky1, hky2, hdis⟩ := X
  obtain ⟨hx, hb, hml, hown, hts⟩ := id CF
  have hbA : ¬ (fun q : Nat => s.heap.size ≤ q) b := Nat.not_le.mpr hbl
  refine lv_aload_n hx hb dL_law_831 rfl (lv_at hl 2 rfl) ?_
  refine lw_i (n := 0) (rest := []) (w := wC h1 cA) (V := wR h2 cA SR) CF hK hz hk1 hPC hPR (fun i x hx k hk e => by obtain ⟨k2, hk2, e2⟩ := key_of (wR_fst h2 cA SR) hx; exact hdis k hk k2 hk2 (e.symm.trans e2)) hS (c_X4_comes l hky1 _ (hst SC SR hI)) (lwG_V lm_L_102 li_X4_comes lx_X4_comes lz_RX4 lc_X4_comes) (by decide +kernel) (oD_at h1 cA _) rfl rfl rfl (Nat.le_of_ble_eq_true rfl) ⟨rfl, rfl⟩ ⟨by decide, by decide⟩ dL_law_832 hl.1 ⟨by decide, by decide⟩ (fun r SC H locs hd hPC hPR hS => ?_)
  refine lv_aload_n hx hb dL_law_835 rfl (lv_at hl 1 rfl) ?_
  refine lw_i (n := 0) (rest := [.int r]) (w := wR h2 cA) (V := wC h1 cA SC) (b := false) CF hK (fun _ _ _ _ _ h => by cases h) hk2 hPR hPC (fun i x hx k hk e => by obtain ⟨k2, hk2, e2⟩ := key_of (wC_fst h1 cA SC) hx; exact hdis k2 hk2 k hk (e2.symm.trans e)) hS (c_X5_comes l hky2 _ hd) (lwG_V lm_L_105 li_X5_comes lx_X5_comes lz_RX5 lc_X5_comes) (by decide +kernel) (oR_at h2 cA _) rfl rfl rfl (Nat.le_of_ble_eq_true rfl) ⟨rfl, rfl⟩ ⟨by decide, by decide⟩ dL_law_836 hl.1 ⟨by decide, by decide⟩ (fun r2 SR H locs hd hPR hPC hS => ?_)
  refine lv_icmp_eq (tgt := 1261) hx hb dL_law_839 (by decide) (fun _ => ?_) (fun hc => absurd hd.1 hc)
  exact kn _ _ _ _ _ hd.2 hPC hPR hS hl
set_option maxHeartbeats 4000000 in
set_option maxRecDepth 100000 in
theorem lc_stood {p : Program} {l : Launch} {e : Env} {s : State} {m : MethodId} {below : List Frame} {meth : Method} {c : Code} {b L : Nat} {xs : Nat → Int32} {D : va_G} {cA : Nat → ClassId} {h1 h2 : Nat → Nat} {Inv : sT → sT → Prop} {i : Nat} (hst : st_stood Inv) (hL : L ≤ 384) (hi : i + 6 ≤ L) (X : lwX p s m meth c b L xs D cA h1 h2) (kn : ∀ (SC SR : sT) (H : Heap) (locs : List Loc) (ls : Array Slot), Inv SC SR → va_P D vwCl (wC h1 cA SC) H → va_P D vwCl (wR h2 cA SR) H → va_S (fun q => s.heap.size ≤ q) s.heap H locs → lv_has ls 4 [(3, .int (nI i)), (2, .ref (h2 100)), (1, .ref (h1 1000)), (0, .ref b)] → W p l e room_1 s m #[Value.ref b] below meth c H locs 600000 7302250 (lw_Z below #[Value.ref b] s) (F0 m 1261 ls [])) {SC SR : sT} {H : Heap} {locs : List Loc} {ls : Array Slot} (hI : Inv SC SR) (hPC : va_P D vwCl (wC h1 cA SC) H) (hPR : va_P D vwCl (wR h2 cA SR) H) (hS : va_S (fun q => s.heap.size ≤ q) s.heap H locs) (hl : lv_has ls 4 [(3, .int (nI i)), (2, .ref (h2 100)), (1, .ref (h1 1000)), (0, .ref b)]) : W p l e room_1 s m #[Value.ref b] below meth c H locs 600000 7302250 (lw_Z below #[Value.ref b] s) (F0 m 844 ls []) := by
  obtain ⟨CF, hr, hX, hbl, hlocks, hK, hz, hk1, hk2, hky1, hky2, hdis⟩ := X
  obtain ⟨hx, hb, hml, hown, hts⟩ := id CF
  have hbA : ¬ (fun q : Nat => s.heap.size ≤ q) b := Nat.not_le.mpr hbl
  refine lv_aload_n hx hb dL_law_844 rfl (lv_at hl 2 rfl) ?_
  refine lv_aload_n hx hb dL_law_845 rfl (lv_at hl 3 rfl) ?_
  refine lv_iload_n hx hb dL_law_846 rfl (lv_at hl 0 rfl) ?_
  refine lv_iconst (v := 1) hx hb dL_law_847 (by decide) ?_
  refine lv_iadd hx hb dL_law_848 ?_
  refine va_sld hx hb hX hbl hbA hS (lw_ix (c := 1) hL hi (by decide)) dL_law_849 ?_
  refine lw_i (n := 1) (rest := []) (w := wC h1 cA) (V := wR h2 cA SR) CF hK hz hk1 hPC hPR (fun i x hx k hk e => by obtain ⟨k2, hk2, e2⟩ := key_of (wR_fst h2 cA SR) hx; exact hdis k hk k2 hk2 (e.symm.trans e2)) hS (c_X4_stood l hky1 _ (hst _ SC SR hI)) (lwG_V lm_L_106 li_X4_stood lx_X4_stood lz_RX4 lc_X4_stood) (by decide +kernel) (oD_at h1 cA _) rfl rfl rfl (Nat.le_of_ble_eq_true rfl) ⟨rfl, rfl⟩ ⟨by decide, by decide⟩ dL_law_850 hl.1 ⟨by decide, by decide⟩ (fun r SC H locs hd hPC hPR hS => ?_)
  refine lv_aload_n hx hb dL_law_853 rfl (lv_at hl 1 rfl) ?_
  refine lv_aload_n hx hb dL_law_854 rfl (lv_at hl 3 rfl) ?_
  refine lv_iload_n hx hb dL_law_855 rfl (lv_at hl 0 rfl) ?_
  refine lv_iconst (v := 1) hx hb dL_law_856 (by decide) ?_
  refine lv_iadd hx hb dL_law_857 ?_
  refine va_sld hx hb hX hbl hbA hS (lw_ix (c := 1) hL hi (by decide)) dL_law_858 ?_
  refine lw_i (n := 1) (rest := [.int r]) (w := wR h2 cA) (V := wC h1 cA SC) (b := false) CF hK (fun _ _ _ _ _ h => by cases h) hk2 hPR hPC (fun i x hx k hk e => by obtain ⟨k2, hk2, e2⟩ := key_of (wC_fst h1 cA SC) hx; exact hdis k2 hk2 k hk (e2.symm.trans e)) hS (c_X5_stood l hky2 _ hd) (lwG_V lm_L_109 li_X5_stood lx_X5_stood lz_RX5 lc_X5_stood) (by decide +kernel) (oR_at h2 cA _) rfl rfl rfl (Nat.le_of_ble_eq_true rfl) ⟨rfl, rfl⟩ ⟨by decide, by decide⟩ dL_law_859 hl.1 ⟨by decide, by decide⟩ (fun r2 SR H locs hd hPR hPC hS => ?_)
  refine lv_icmp_eq (tgt := 1261) hx hb dL_law_862 (by decide) (fun _ => ?_) (fun hc => absurd hd.1 hc)
  exact kn _ _ _ _ _ hd.2 hPC hPR hS hl
set_option maxHeartbeats 4000000 in
set_option maxRecDepth 100000 in
theorem lc_intime {p : Program} {l : Launch} {e : Env} {s : State} {m : MethodId} {below : List Frame} {meth : Method} {c : Code} {b L : Nat} {xs : Nat → Int32} {D : va_G} {cA : Nat → ClassId} {h1 h2 : Nat → Nat} {Inv : sT → sT → Prop} {i : Nat} (hst : st_intime Inv) (hL : L ≤ 384) (hi : i + 6 ≤ L) (X : lwX p s m meth c b L xs D cA h1 h2) (kn : ∀ (SC SR : sT) (H : Heap) (locs : List Loc) (ls : Array Slot), Inv SC SR → va_P D vwCl (wC h1 cA SC) H → va_P D vwCl (wR h2 cA SR) H → va_S (fun q => s.heap.size ≤ q) s.heap H locs → lv_has ls 4 [(3, .int (nI i)), (2, .ref (h2 100)), (1, .ref (h1 1000)), (0, .ref b)] → W p l e room_1 s m #[Value.ref b] below meth c H locs 600000 7302250 (lw_Z below #[Value.ref b] s) (F0 m 1261 ls [])) {SC SR : sT} {H : Heap} {locs : List Loc} {ls : Array Slot} (hI : Inv SC SR) (hPC : va_P D vwCl (wC h1 cA SC) H) (hPR : va_P D vwCl (wR h2 cA SR) H) (hS : va_S (fun q => s.heap.size ≤ q) s.heap H locs) (hl : lv_has ls 4 [(3, .int (nI i)), (2, .ref (h2 100)), (1, .ref (h1 1000)), (0, .ref b)]) : W p l e room_1 s m #[Value.ref b] below meth c H locs 600000 7302250 (lw_Z below #[Value.ref b] s) (F0 m 867 ls []) := by
  obtain ⟨CF, hr, hX, hbl, hlocks, hK, hz, hk1, hk2, hky1, hky2, hdis⟩ := X
  obtain ⟨hx, hb, hml, hown, hts⟩ := id CF
  have hbA : ¬ (fun q : Nat => s.heap.size ≤ q) b := Nat.not_le.mpr hbl
  refine lv_aload_n hx hb dL_law_867 rfl (lv_at hl 2 rfl) ?_
  refine lw_i (n := 0) (rest := []) (w := wC h1 cA) (V := wR h2 cA SR) CF hK hz hk1 hPC hPR (fun i x hx k hk e => by obtain ⟨k2, hk2, e2⟩ := key_of (wR_fst h2 cA SR) hx; exact hdis k hk k2 hk2 (e.symm.trans e2)) hS (c_X4_intime l hky1 _ (hst SC SR hI)) (lwG_V lm_L_110 li_X4_intime lx_X4_intime lz_RX4 lc_X4_intime) (by decide +kernel) (oD_at h1 cA _) rfl rfl rfl (Nat.le_of_ble_eq_true rfl) ⟨rfl, rfl⟩ ⟨by decide, by decide⟩ dL_law_868 hl.1 ⟨by decide, by decide⟩ (fun r SC H locs hd hPC hPR hS => ?_)
  refine lv_aload_n hx hb dL_law_871 rfl (lv_at hl 1 rfl) ?_
  refine lw_i (n := 0) (rest := [.int r]) (w := wR h2 cA) (V := wC h1 cA SC) (b := false) CF hK (fun _ _ _ _ _ h => by cases h) hk2 hPR hPC (fun i x hx k hk e => by obtain ⟨k2, hk2, e2⟩ := key_of (wC_fst h1 cA SC) hx; exact hdis k2 hk2 k hk (e2.symm.trans e)) hS (c_X5_intime l hky2 _ hd) (lwG_V lm_L_113 li_X5_intime lx_X5_intime lz_RX5 lc_X5_intime) (by decide +kernel) (oR_at h2 cA _) rfl rfl rfl (Nat.le_of_ble_eq_true rfl) ⟨rfl, rfl⟩ ⟨by decide, by decide⟩ dL_law_872 hl.1 ⟨by decide, by decide⟩ (fun r2 SR H locs hd hPR hPC hS => ?_)
  refine lv_icmp_eq (tgt := 1261) hx hb dL_law_875 (by decide) (fun _ => ?_) (fun hc => absurd hd.1 hc)
  exact kn _ _ _ _ _ hd.2 hPC hPR hS hl
set_option maxHeartbeats 4000000 in
set_option maxRecDepth 100000 in
theorem lc_feast {p : Program} {l : Launch} {e : Env} {s : State} {m : MethodId} {below : List Frame} {meth : Method} {c : Code} {b L : Nat} {xs : Nat → Int32} {D : va_G} {cA : Nat → ClassId} {h1 h2 : Nat → Nat} {Inv : sT → sT → Prop} {i : Nat} (hst : st_feast Inv) (hL : L ≤ 384) (hi : i + 6 ≤ L) (X : lwX p s m meth c b L xs D cA h1 h2) (kn : ∀ (SC SR : sT) (H : Heap) (locs : List Loc) (ls : Array Slot), Inv SC SR → va_P D vwCl (wC h1 cA SC) H → va_P D vwCl (wR h2 cA SR) H → va_S (fun q => s.heap.size ≤ q) s.heap H locs → lv_has ls 4 [(3, .int (nI i)), (2, .ref (h2 100)), (1, .ref (h1 1000)), (0, .ref b)] → W p l e room_1 s m #[Value.ref b] below meth c H locs 600000 7302250 (lw_Z below #[Value.ref b] s) (F0 m 1261 ls [])) {SC SR : sT} {H : Heap} {locs : List Loc} {ls : Array Slot} (hI : Inv SC SR) (hPC : va_P D vwCl (wC h1 cA SC) H) (hPR : va_P D vwCl (wR h2 cA SR) H) (hS : va_S (fun q => s.heap.size ≤ q) s.heap H locs) (hl : lv_has ls 4 [(3, .int (nI i)), (2, .ref (h2 100)), (1, .ref (h1 1000)), (0, .ref b)]) : W p l e room_1 s m #[Value.ref b] below meth c H locs 600000 7302250 (lw_Z below #[Value.ref b] s) (F0 m 880 ls []) := by
  obtain ⟨CF, hr, hX, hbl, hlocks, hK, hz, hk1, hk2, hky1, hky2, hdis⟩ := X
  obtain ⟨hx, hb, hml, hown, hts⟩ := id CF
  have hbA : ¬ (fun q : Nat => s.heap.size ≤ q) b := Nat.not_le.mpr hbl
  refine lv_aload_n hx hb dL_law_880 rfl (lv_at hl 2 rfl) ?_
  refine lv_aload_n hx hb dL_law_881 rfl (lv_at hl 3 rfl) ?_
  refine lv_iload_n hx hb dL_law_882 rfl (lv_at hl 0 rfl) ?_
  refine lv_iconst (v := 1) hx hb dL_law_883 (by decide) ?_
  refine lv_iadd hx hb dL_law_884 ?_
  refine va_sld hx hb hX hbl hbA hS (lw_ix (c := 1) hL hi (by decide)) dL_law_885 ?_
  refine lv_aload_n hx hb dL_law_886 rfl (lv_at hl 3 rfl) ?_
  refine lv_iload_n hx hb dL_law_887 rfl (lv_at hl 0 rfl) ?_
  refine lv_iconst (v := 2) hx hb dL_law_888 (by decide) ?_
  refine lv_iadd hx hb dL_law_889 ?_
  refine va_sld hx hb hX hbl hbA hS (lw_ix (c := 2) hL hi (by decide)) dL_law_890 ?_
  refine lw_i (n := 2) (rest := []) (w := wC h1 cA) (V := wR h2 cA SR) CF hK hz hk1 hPC hPR (fun i x hx k hk e => by obtain ⟨k2, hk2, e2⟩ := key_of (wR_fst h2 cA SR) hx; exact hdis k hk k2 hk2 (e.symm.trans e2)) hS (c_X4_feast l hky1 _ (hst _ _ SC SR hI)) (lwG_V lm_L_114 li_X4_feast lx_X4_feast lz_RX4 lc_X4_feast) (by decide +kernel) (oD_at h1 cA _) rfl rfl rfl (Nat.le_of_ble_eq_true rfl) ⟨rfl, rfl⟩ ⟨by decide, by decide⟩ dL_law_891 hl.1 ⟨by decide, by decide⟩ (fun r SC H locs hd hPC hPR hS => ?_)
  refine lv_aload_n hx hb dL_law_894 rfl (lv_at hl 1 rfl) ?_
  refine lv_aload_n hx hb dL_law_895 rfl (lv_at hl 3 rfl) ?_
  refine lv_iload_n hx hb dL_law_896 rfl (lv_at hl 0 rfl) ?_
  refine lv_iconst (v := 1) hx hb dL_law_897 (by decide) ?_
  refine lv_iadd hx hb dL_law_898 ?_
  refine va_sld hx hb hX hbl hbA hS (lw_ix (c := 1) hL hi (by decide)) dL_law_899 ?_
  refine lv_aload_n hx hb dL_law_900 rfl (lv_at hl 3 rfl) ?_
  refine lv_iload_n hx hb dL_law_901 rfl (lv_at hl 0 rfl) ?_
  refine lv_iconst (v := 2) hx hb dL_law_902 (by decide) ?_
  refine lv_iadd hx hb dL_law_903 ?_
  refine va_sld hx hb hX hbl hbA hS (lw_ix (c := 2) hL hi (by decide)) dL_law_904 ?_
  refine lw_i (n := 2) (rest := [.int r]) (w := wR h2 cA) (V := wC h1 cA SC) (b := false) CF hK (fun _ _ _ _ _ h => by cases h) hk2 hPR hPC (fun i x hx k hk e => by obtain ⟨k2, hk2, e2⟩ := key_of (wC_fst h1 cA SC) hx; exact hdis k2 hk2 k hk (e2.symm.trans e)) hS (c_X5_feast l hky2 _ hd) (lwG_V lm_L_117 li_X5_feast lx_X5_feast lz_RX5 lc_X5_feast) (by decide +kernel) (oR_at h2 cA _) rfl rfl rfl (Nat.le_of_ble_eq_true rfl) ⟨rfl, rfl⟩ ⟨by decide, by decide⟩ dL_law_905 hl.1 ⟨by decide, by decide⟩ (fun r2 SR H locs hd hPR hPC hS => ?_)
  refine lv_icmp_eq (tgt := 1261) hx hb dL_law_908 (by decide) (fun _ => ?_) (fun hc => absurd hd.1 hc)
  exact kn _ _ _ _ _ hd.2 hPC hPR hS hl
set_option maxHeartbeats 4000000 in
set_option maxRecDepth 100000 in
theorem lc_bed {p : Program} {l : Launch} {e : Env} {s : State} {m : MethodId} {below : List Frame} {meth : Method} {c : Code} {b L : Nat} {xs : Nat → Int32} {D : va_G} {cA : Nat → ClassId} {h1 h2 : Nat → Nat} {Inv : sT → sT → Prop} {i : Nat} (hst : st_bed Inv) (hL : L ≤ 384) (hi : i + 6 ≤ L) (X : lwX p s m meth c b L xs D cA h1 h2) (kn : ∀ (SC SR : sT) (H : Heap) (locs : List Loc) (ls : Array Slot), Inv SC SR → va_P D vwCl (wC h1 cA SC) H → va_P D vwCl (wR h2 cA SR) H → va_S (fun q => s.heap.size ≤ q) s.heap H locs → lv_has ls 4 [(3, .int (nI i)), (2, .ref (h2 100)), (1, .ref (h1 1000)), (0, .ref b)] → W p l e room_1 s m #[Value.ref b] below meth c H locs 600000 7302250 (lw_Z below #[Value.ref b] s) (F0 m 1261 ls [])) {SC SR : sT} {H : Heap} {locs : List Loc} {ls : Array Slot} (hI : Inv SC SR) (hPC : va_P D vwCl (wC h1 cA SC) H) (hPR : va_P D vwCl (wR h2 cA SR) H) (hS : va_S (fun q => s.heap.size ≤ q) s.heap H locs) (hl : lv_has ls 4 [(3, .int (nI i)), (2, .ref (h2 100)), (1, .ref (h1 1000)), (0, .ref b)]) : W p l e room_1 s m #[Value.ref b] below meth c H locs 600000 7302250 (lw_Z below #[Value.ref b] s) (F0 m 913 ls []) := by
  obtain ⟨CF, hr, hX, hbl, hlocks, hK, hz, hk1, hk2, hky1, hky2, hdis⟩ := X
  obtain ⟨hx, hb, hml, hown, hts⟩ := id CF
  have hbA : ¬ (fun q : Nat => s.heap.size ≤ q) b := Nat.not_le.mpr hbl
  refine lv_aload_n hx hb dL_law_913 rfl (lv_at hl 2 rfl) ?_
  refine lv_aload_n hx hb dL_law_914 rfl (lv_at hl 3 rfl) ?_
  refine lv_iload_n hx hb dL_law_915 rfl (lv_at hl 0 rfl) ?_
  refine lv_iconst (v := 1) hx hb dL_law_916 (by decide) ?_
  refine lv_iadd hx hb dL_law_917 ?_
  refine va_sld hx hb hX hbl hbA hS (lw_ix (c := 1) hL hi (by decide)) dL_law_918 ?_
  refine lw_i (n := 1) (rest := []) (w := wC h1 cA) (V := wR h2 cA SR) CF hK hz hk1 hPC hPR (fun i x hx k hk e => by obtain ⟨k2, hk2, e2⟩ := key_of (wR_fst h2 cA SR) hx; exact hdis k hk k2 hk2 (e.symm.trans e2)) hS (c_X4_bed l hky1 _ (hst _ SC SR hI)) (lwG_V lm_L_118 li_X4_bed lx_X4_bed lz_RX4 lc_X4_bed) (by decide +kernel) (oD_at h1 cA _) rfl rfl rfl (Nat.le_of_ble_eq_true rfl) ⟨rfl, rfl⟩ ⟨by decide, by decide⟩ dL_law_919 hl.1 ⟨by decide, by decide⟩ (fun r SC H locs hd hPC hPR hS => ?_)
  refine lv_aload_n hx hb dL_law_922 rfl (lv_at hl 1 rfl) ?_
  refine lv_aload_n hx hb dL_law_923 rfl (lv_at hl 3 rfl) ?_
  refine lv_iload_n hx hb dL_law_924 rfl (lv_at hl 0 rfl) ?_
  refine lv_iconst (v := 1) hx hb dL_law_925 (by decide) ?_
  refine lv_iadd hx hb dL_law_926 ?_
  refine va_sld hx hb hX hbl hbA hS (lw_ix (c := 1) hL hi (by decide)) dL_law_927 ?_
  refine lw_i (n := 1) (rest := [.int r]) (w := wR h2 cA) (V := wC h1 cA SC) (b := false) CF hK (fun _ _ _ _ _ h => by cases h) hk2 hPR hPC (fun i x hx k hk e => by obtain ⟨k2, hk2, e2⟩ := key_of (wC_fst h1 cA SC) hx; exact hdis k2 hk2 k hk (e2.symm.trans e)) hS (c_X5_bed l hky2 _ hd) (lwG_V lm_L_121 li_X5_bed lx_X5_bed lz_RX5 lc_X5_bed) (by decide +kernel) (oR_at h2 cA _) rfl rfl rfl (Nat.le_of_ble_eq_true rfl) ⟨rfl, rfl⟩ ⟨by decide, by decide⟩ dL_law_928 hl.1 ⟨by decide, by decide⟩ (fun r2 SR H locs hd hPR hPC hS => ?_)
  refine lv_icmp_eq (tgt := 1261) hx hb dL_law_931 (by decide) (fun _ => ?_) (fun hc => absurd hd.1 hc)
  exact kn _ _ _ _ _ hd.2 hPC hPR hS hl
set_option maxHeartbeats 4000000 in
set_option maxRecDepth 100000 in
theorem lc_account {p : Program} {l : Launch} {e : Env} {s : State} {m : MethodId} {below : List Frame} {meth : Method} {c : Code} {b L : Nat} {xs : Nat → Int32} {D : va_G} {cA : Nat → ClassId} {h1 h2 : Nat → Nat} {Inv : sT → sT → Prop} {i : Nat} (hst : st_account Inv) (hL : L ≤ 384) (hi : i + 6 ≤ L) (X : lwX p s m meth c b L xs D cA h1 h2) (kn : ∀ (SC SR : sT) (H : Heap) (locs : List Loc) (ls : Array Slot), Inv SC SR → va_P D vwCl (wC h1 cA SC) H → va_P D vwCl (wR h2 cA SR) H → va_S (fun q => s.heap.size ≤ q) s.heap H locs → lv_has ls 4 [(3, .int (nI i)), (2, .ref (h2 100)), (1, .ref (h1 1000)), (0, .ref b)] → W p l e room_1 s m #[Value.ref b] below meth c H locs 600000 7302250 (lw_Z below #[Value.ref b] s) (F0 m 1261 ls [])) {SC SR : sT} {H : Heap} {locs : List Loc} {ls : Array Slot} (hI : Inv SC SR) (hPC : va_P D vwCl (wC h1 cA SC) H) (hPR : va_P D vwCl (wR h2 cA SR) H) (hS : va_S (fun q => s.heap.size ≤ q) s.heap H locs) (hl : lv_has ls 4 [(3, .int (nI i)), (2, .ref (h2 100)), (1, .ref (h1 1000)), (0, .ref b)]) : W p l e room_1 s m #[Value.ref b] below meth c H locs 600000 7302250 (lw_Z below #[Value.ref b] s) (F0 m 936 ls []) := by
  obtain ⟨CF, hr, hX, hbl, hlocks, hK, hz, hk1, hk2, hky1, hky2, hdis⟩ := X
  obtain ⟨hx, hb, hml, hown, hts⟩ := id CF
  have hbA : ¬ (fun q : Nat => s.heap.size ≤ q) b := Nat.not_le.mpr hbl
  refine lv_aload_n hx hb dL_law_936 rfl (lv_at hl 2 rfl) ?_
  refine lv_aload_n hx hb dL_law_937 rfl (lv_at hl 3 rfl) ?_
  refine lv_iload_n hx hb dL_law_938 rfl (lv_at hl 0 rfl) ?_
  refine lv_iconst (v := 1) hx hb dL_law_939 (by decide) ?_
  refine lv_iadd hx hb dL_law_940 ?_
  refine va_sld hx hb hX hbl hbA hS (lw_ix (c := 1) hL hi (by decide)) dL_law_941 ?_
  refine lw_i (n := 1) (rest := []) (w := wC h1 cA) (V := wR h2 cA SR) CF hK hz hk1 hPC hPR (fun i x hx k hk e => by obtain ⟨k2, hk2, e2⟩ := key_of (wR_fst h2 cA SR) hx; exact hdis k hk k2 hk2 (e.symm.trans e2)) hS (c_X4_account l hky1 _ (hst _ SC SR hI)) (lwG_V lm_L_122 li_X4_account lx_X4_account lz_RX4 lc_X4_account) (by decide +kernel) (oD_at h1 cA _) rfl rfl rfl (Nat.le_of_ble_eq_true rfl) ⟨rfl, rfl⟩ ⟨by decide, by decide⟩ dL_law_942 hl.1 ⟨by decide, by decide⟩ (fun r SC H locs hd hPC hPR hS => ?_)
  refine lv_aload_n hx hb dL_law_945 rfl (lv_at hl 1 rfl) ?_
  refine lv_aload_n hx hb dL_law_946 rfl (lv_at hl 3 rfl) ?_
  refine lv_iload_n hx hb dL_law_947 rfl (lv_at hl 0 rfl) ?_
  refine lv_iconst (v := 1) hx hb dL_law_948 (by decide) ?_
  refine lv_iadd hx hb dL_law_949 ?_
  refine va_sld hx hb hX hbl hbA hS (lw_ix (c := 1) hL hi (by decide)) dL_law_950 ?_
  refine lw_i (n := 1) (rest := [.int r]) (w := wR h2 cA) (V := wC h1 cA SC) (b := false) CF hK (fun _ _ _ _ _ h => by cases h) hk2 hPR hPC (fun i x hx k hk e => by obtain ⟨k2, hk2, e2⟩ := key_of (wC_fst h1 cA SC) hx; exact hdis k2 hk2 k hk (e2.symm.trans e)) hS (c_X5_account l hky2 _ hd) (lwG_V lm_L_125 li_X5_account lx_X5_account lz_RX5 lc_X5_account) (by decide +kernel) (oR_at h2 cA _) rfl rfl rfl (Nat.le_of_ble_eq_true rfl) ⟨rfl, rfl⟩ ⟨by decide, by decide⟩ dL_law_951 hl.1 ⟨by decide, by decide⟩ (fun r2 SR H locs hd hPR hPC hS => ?_)
  refine lv_icmp_eq (tgt := 1261) hx hb dL_law_954 (by decide) (fun _ => ?_) (fun hc => absurd hd.1 hc)
  exact kn _ _ _ _ _ hd.2 hPC hPR hS hl
set_option maxHeartbeats 4000000 in
set_option maxRecDepth 100000 in
theorem lc_kinds {p : Program} {l : Launch} {e : Env} {s : State} {m : MethodId} {below : List Frame} {meth : Method} {c : Code} {b L : Nat} {xs : Nat → Int32} {D : va_G} {cA : Nat → ClassId} {h1 h2 : Nat → Nat} {Inv : sT → sT → Prop} {i : Nat} (hst : st_kinds Inv) (hL : L ≤ 384) (hi : i + 6 ≤ L) (X : lwX p s m meth c b L xs D cA h1 h2) (kn : ∀ (SC SR : sT) (H : Heap) (locs : List Loc) (ls : Array Slot), Inv SC SR → va_P D vwCl (wC h1 cA SC) H → va_P D vwCl (wR h2 cA SR) H → va_S (fun q => s.heap.size ≤ q) s.heap H locs → lv_has ls 4 [(3, .int (nI i)), (2, .ref (h2 100)), (1, .ref (h1 1000)), (0, .ref b)] → W p l e room_1 s m #[Value.ref b] below meth c H locs 600000 7302250 (lw_Z below #[Value.ref b] s) (F0 m 1261 ls [])) {SC SR : sT} {H : Heap} {locs : List Loc} {ls : Array Slot} (hI : Inv SC SR) (hPC : va_P D vwCl (wC h1 cA SC) H) (hPR : va_P D vwCl (wR h2 cA SR) H) (hS : va_S (fun q => s.heap.size ≤ q) s.heap H locs) (hl : lv_has ls 4 [(3, .int (nI i)), (2, .ref (h2 100)), (1, .ref (h1 1000)), (0, .ref b)]) : W p l e room_1 s m #[Value.ref b] below meth c H locs 600000 7302250 (lw_Z below #[Value.ref b] s) (F0 m 959 ls []) := by
  obtain ⟨CF, hr, hX, hbl, hlocks, hK, hz, hk1, hk2, hky1, hky2, hdis⟩ := X
  obtain ⟨hx, hb, hml, hown, hts⟩ := id CF
  have hbA : ¬ (fun q : Nat => s.heap.size ≤ q) b := Nat.not_le.mpr hbl
  refine lv_aload_n hx hb dL_law_959 rfl (lv_at hl 2 rfl) ?_
  refine lv_aload_n hx hb dL_law_960 rfl (lv_at hl 3 rfl) ?_
  refine lv_iload_n hx hb dL_law_961 rfl (lv_at hl 0 rfl) ?_
  refine lv_iconst (v := 1) hx hb dL_law_962 (by decide) ?_
  refine lv_iadd hx hb dL_law_963 ?_
  refine va_sld hx hb hX hbl hbA hS (lw_ix (c := 1) hL hi (by decide)) dL_law_964 ?_
  refine lv_aload_n hx hb dL_law_965 rfl (lv_at hl 3 rfl) ?_
  refine lv_iload_n hx hb dL_law_966 rfl (lv_at hl 0 rfl) ?_
  refine lv_iconst (v := 2) hx hb dL_law_967 (by decide) ?_
  refine lv_iadd hx hb dL_law_968 ?_
  refine va_sld hx hb hX hbl hbA hS (lw_ix (c := 2) hL hi (by decide)) dL_law_969 ?_
  refine lw_i (n := 2) (rest := []) (w := wC h1 cA) (V := wR h2 cA SR) CF hK hz hk1 hPC hPR (fun i x hx k hk e => by obtain ⟨k2, hk2, e2⟩ := key_of (wR_fst h2 cA SR) hx; exact hdis k hk k2 hk2 (e.symm.trans e2)) hS (c_X4_kinds l hky1 _ (hst _ _ SC SR hI)) (lwG_V lm_L_126 li_X4_kinds lx_X4_kinds lz_RX4 lc_X4_kinds) (by decide +kernel) (oD_at h1 cA _) rfl rfl rfl (Nat.le_of_ble_eq_true rfl) ⟨rfl, rfl⟩ ⟨by decide, by decide⟩ dL_law_970 hl.1 ⟨by decide, by decide⟩ (fun r SC H locs hd hPC hPR hS => ?_)
  refine lv_aload_n hx hb dL_law_973 rfl (lv_at hl 1 rfl) ?_
  refine lv_aload_n hx hb dL_law_974 rfl (lv_at hl 3 rfl) ?_
  refine lv_iload_n hx hb dL_law_975 rfl (lv_at hl 0 rfl) ?_
  refine lv_iconst (v := 1) hx hb dL_law_976 (by decide) ?_
  refine lv_iadd hx hb dL_law_977 ?_
  refine va_sld hx hb hX hbl hbA hS (lw_ix (c := 1) hL hi (by decide)) dL_law_978 ?_
  refine lv_aload_n hx hb dL_law_979 rfl (lv_at hl 3 rfl) ?_
  refine lv_iload_n hx hb dL_law_980 rfl (lv_at hl 0 rfl) ?_
  refine lv_iconst (v := 2) hx hb dL_law_981 (by decide) ?_
  refine lv_iadd hx hb dL_law_982 ?_
  refine va_sld hx hb hX hbl hbA hS (lw_ix (c := 2) hL hi (by decide)) dL_law_983 ?_
  refine lw_i (n := 2) (rest := [.int r]) (w := wR h2 cA) (V := wC h1 cA SC) (b := false) CF hK (fun _ _ _ _ _ h => by cases h) hk2 hPR hPC (fun i x hx k hk e => by obtain ⟨k2, hk2, e2⟩ := key_of (wC_fst h1 cA SC) hx; exact hdis k2 hk2 k hk (e2.symm.trans e)) hS (c_X5_kinds l hky2 _ hd) (lwG_V lm_L_129 li_X5_kinds lx_X5_kinds lz_RX5 lc_X5_kinds) (by decide +kernel) (oR_at h2 cA _) rfl rfl rfl (Nat.le_of_ble_eq_true rfl) ⟨rfl, rfl⟩ ⟨by decide, by decide⟩ dL_law_984 hl.1 ⟨by decide, by decide⟩ (fun r2 SR H locs hd hPR hPC hS => ?_)
  refine lv_icmp_eq (tgt := 1261) hx hb dL_law_987 (by decide) (fun _ => ?_) (fun hc => absurd hd.1 hc)
  exact kn _ _ _ _ _ hd.2 hPC hPR hS hl
set_option maxHeartbeats 4000000 in
set_option maxRecDepth 100000 in
theorem lc_look {p : Program} {l : Launch} {e : Env} {s : State} {m : MethodId} {below : List Frame} {meth : Method} {c : Code} {b L : Nat} {xs : Nat → Int32} {D : va_G} {cA : Nat → ClassId} {h1 h2 : Nat → Nat} {Inv : sT → sT → Prop} {i : Nat} (hst : st_look Inv) (hL : L ≤ 384) (hi : i + 6 ≤ L) (X : lwX p s m meth c b L xs D cA h1 h2) (kn : ∀ (SC SR : sT) (H : Heap) (locs : List Loc) (ls : Array Slot), Inv SC SR → va_P D vwCl (wC h1 cA SC) H → va_P D vwCl (wR h2 cA SR) H → va_S (fun q => s.heap.size ≤ q) s.heap H locs → lv_has ls 4 [(3, .int (nI i)), (2, .ref (h2 100)), (1, .ref (h1 1000)), (0, .ref b)] → W p l e room_1 s m #[Value.ref b] below meth c H locs 600000 7302250 (lw_Z below #[Value.ref b] s) (F0 m 1261 ls [])) {SC SR : sT} {H : Heap} {locs : List Loc} {ls : Array Slot} (hI : Inv SC SR) (hPC : va_P D vwCl (wC h1 cA SC) H) (hPR : va_P D vwCl (wR h2 cA SR) H) (hS : va_S (fun q => s.heap.size ≤ q) s.heap H locs) (hl : lv_has ls 4 [(3, .int (nI i)), (2, .ref (h2 100)), (1, .ref (h1 1000)), (0, .ref b)]) : W p l e room_1 s m #[Value.ref b] below meth c H locs 600000 7302250 (lw_Z below #[Value.ref b] s) (F0 m 992 ls []) := by
  obtain ⟨CF, hr, hX, hbl, hlocks, hK, hz, hk1, hk2, hky1, hky2, hdis⟩ := X
  obtain ⟨hx, hb, hml, hown, hts⟩ := id CF
  have hbA : ¬ (fun q : Nat => s.heap.size ≤ q) b := Nat.not_le.mpr hbl
  refine lv_aload_n hx hb dL_law_992 rfl (lv_at hl 2 rfl) ?_
  refine lv_aload_n hx hb dL_law_993 rfl (lv_at hl 3 rfl) ?_
  refine lv_iload_n hx hb dL_law_994 rfl (lv_at hl 0 rfl) ?_
  refine lv_iconst (v := 1) hx hb dL_law_995 (by decide) ?_
  refine lv_iadd hx hb dL_law_996 ?_
  refine va_sld hx hb hX hbl hbA hS (lw_ix (c := 1) hL hi (by decide)) dL_law_997 ?_
  refine lw_i (n := 1) (rest := []) (w := wC h1 cA) (V := wR h2 cA SR) CF hK hz hk1 hPC hPR (fun i x hx k hk e => by obtain ⟨k2, hk2, e2⟩ := key_of (wR_fst h2 cA SR) hx; exact hdis k hk k2 hk2 (e.symm.trans e2)) hS (c_X4_look l hky1 _ (hst _ SC SR hI)) (lwG_V lm_L_130 li_X4_look lx_X4_look lz_RX4 lc_X4_look) (by decide +kernel) (oD_at h1 cA _) rfl rfl rfl (Nat.le_of_ble_eq_true rfl) ⟨rfl, rfl⟩ ⟨by decide, by decide⟩ dL_law_998 hl.1 ⟨by decide, by decide⟩ (fun r SC H locs hd hPC hPR hS => ?_)
  refine lv_aload_n hx hb dL_law_1001 rfl (lv_at hl 1 rfl) ?_
  refine lv_aload_n hx hb dL_law_1002 rfl (lv_at hl 3 rfl) ?_
  refine lv_iload_n hx hb dL_law_1003 rfl (lv_at hl 0 rfl) ?_
  refine lv_iconst (v := 1) hx hb dL_law_1004 (by decide) ?_
  refine lv_iadd hx hb dL_law_1005 ?_
  refine va_sld hx hb hX hbl hbA hS (lw_ix (c := 1) hL hi (by decide)) dL_law_1006 ?_
  refine lw_i (n := 1) (rest := [.int r]) (w := wR h2 cA) (V := wC h1 cA SC) (b := false) CF hK (fun _ _ _ _ _ h => by cases h) hk2 hPR hPC (fun i x hx k hk e => by obtain ⟨k2, hk2, e2⟩ := key_of (wC_fst h1 cA SC) hx; exact hdis k2 hk2 k hk (e2.symm.trans e)) hS (c_X5_look l hky2 _ hd) (lwG_V lm_L_133 li_X5_look lx_X5_look lz_RX5 lc_X5_look) (by decide +kernel) (oR_at h2 cA _) rfl rfl rfl (Nat.le_of_ble_eq_true rfl) ⟨rfl, rfl⟩ ⟨by decide, by decide⟩ dL_law_1007 hl.1 ⟨by decide, by decide⟩ (fun r2 SR H locs hd hPR hPC hS => ?_)
  refine lv_icmp_eq (tgt := 1261) hx hb dL_law_1010 (by decide) (fun _ => ?_) (fun hc => absurd hd.1 hc)
  exact kn _ _ _ _ _ hd.2 hPC hPR hS hl
set_option maxHeartbeats 4000000 in
set_option maxRecDepth 100000 in
theorem lc_duel {p : Program} {l : Launch} {e : Env} {s : State} {m : MethodId} {below : List Frame} {meth : Method} {c : Code} {b L : Nat} {xs : Nat → Int32} {D : va_G} {cA : Nat → ClassId} {h1 h2 : Nat → Nat} {Inv : sT → sT → Prop} {i : Nat} (hst : st_duel Inv) (hL : L ≤ 384) (hi : i + 6 ≤ L) (X : lwX p s m meth c b L xs D cA h1 h2) (kn : ∀ (SC SR : sT) (H : Heap) (locs : List Loc) (ls : Array Slot), Inv SC SR → va_P D vwCl (wC h1 cA SC) H → va_P D vwCl (wR h2 cA SR) H → va_S (fun q => s.heap.size ≤ q) s.heap H locs → lv_has ls 4 [(3, .int (nI i)), (2, .ref (h2 100)), (1, .ref (h1 1000)), (0, .ref b)] → W p l e room_1 s m #[Value.ref b] below meth c H locs 600000 7302250 (lw_Z below #[Value.ref b] s) (F0 m 1261 ls [])) {SC SR : sT} {H : Heap} {locs : List Loc} {ls : Array Slot} (hI : Inv SC SR) (hPC : va_P D vwCl (wC h1 cA SC) H) (hPR : va_P D vwCl (wR h2 cA SR) H) (hS : va_S (fun q => s.heap.size ≤ q) s.heap H locs) (hl : lv_has ls 4 [(3, .int (nI i)), (2, .ref (h2 100)), (1, .ref (h1 1000)), (0, .ref b)]) : W p l e room_1 s m #[Value.ref b] below meth c H locs 600000 7302250 (lw_Z below #[Value.ref b] s) (F0 m 1015 ls []) := by
  obtain ⟨CF, hr, hX, hbl, hlocks, hK, hz, hk1, hk2, hky1, hky2, hdis⟩ := X
  obtain ⟨hx, hb, hml, hown, hts⟩ := id CF
  have hbA : ¬ (fun q : Nat => s.heap.size ≤ q) b := Nat.not_le.mpr hbl
  refine lv_aload_n hx hb dL_law_1015 rfl (lv_at hl 2 rfl) ?_
  refine lv_aload_n hx hb dL_law_1016 rfl (lv_at hl 3 rfl) ?_
  refine lv_iload_n hx hb dL_law_1017 rfl (lv_at hl 0 rfl) ?_
  refine lv_iconst (v := 1) hx hb dL_law_1018 (by decide) ?_
  refine lv_iadd hx hb dL_law_1019 ?_
  refine va_sld hx hb hX hbl hbA hS (lw_ix (c := 1) hL hi (by decide)) dL_law_1020 ?_
  refine lw_i (n := 1) (rest := []) (w := wC h1 cA) (V := wR h2 cA SR) CF hK hz hk1 hPC hPR (fun i x hx k hk e => by obtain ⟨k2, hk2, e2⟩ := key_of (wR_fst h2 cA SR) hx; exact hdis k hk k2 hk2 (e.symm.trans e2)) hS (c_X4_duel l hky1 _ (hst _ SC SR hI)) (lwG_V lm_L_134 li_X4_duel lx_X4_duel lz_RX4 lc_X4_duel) (by decide +kernel) (oD_at h1 cA _) rfl rfl rfl (Nat.le_of_ble_eq_true rfl) ⟨rfl, rfl⟩ ⟨by decide, by decide⟩ dL_law_1021 hl.1 ⟨by decide, by decide⟩ (fun r SC H locs hd hPC hPR hS => ?_)
  refine lv_aload_n hx hb dL_law_1024 rfl (lv_at hl 1 rfl) ?_
  refine lv_aload_n hx hb dL_law_1025 rfl (lv_at hl 3 rfl) ?_
  refine lv_iload_n hx hb dL_law_1026 rfl (lv_at hl 0 rfl) ?_
  refine lv_iconst (v := 1) hx hb dL_law_1027 (by decide) ?_
  refine lv_iadd hx hb dL_law_1028 ?_
  refine va_sld hx hb hX hbl hbA hS (lw_ix (c := 1) hL hi (by decide)) dL_law_1029 ?_
  refine lw_i (n := 1) (rest := [.int r]) (w := wR h2 cA) (V := wC h1 cA SC) (b := false) CF hK (fun _ _ _ _ _ h => by cases h) hk2 hPR hPC (fun i x hx k hk e => by obtain ⟨k2, hk2, e2⟩ := key_of (wC_fst h1 cA SC) hx; exact hdis k2 hk2 k hk (e2.symm.trans e)) hS (c_X5_duel l hky2 _ hd) (lwG_V lm_L_137 li_X5_duel lx_X5_duel lz_RX5 lc_X5_duel) (by decide +kernel) (oR_at h2 cA _) rfl rfl rfl (Nat.le_of_ble_eq_true rfl) ⟨rfl, rfl⟩ ⟨by decide, by decide⟩ dL_law_1030 hl.1 ⟨by decide, by decide⟩ (fun r2 SR H locs hd hPR hPC hS => ?_)
  refine lv_icmp_eq (tgt := 1261) hx hb dL_law_1033 (by decide) (fun _ => ?_) (fun hc => absurd hd.1 hc)
  exact kn _ _ _ _ _ hd.2 hPC hPR hS hl
set_option maxHeartbeats 4000000 in
set_option maxRecDepth 100000 in
theorem lc_odds {p : Program} {l : Launch} {e : Env} {s : State} {m : MethodId} {below : List Frame} {meth : Method} {c : Code} {b L : Nat} {xs : Nat → Int32} {D : va_G} {cA : Nat → ClassId} {h1 h2 : Nat → Nat} {Inv : sT → sT → Prop} {i : Nat} (hst : st_odds Inv) (hL : L ≤ 384) (hi : i + 6 ≤ L) (X : lwX p s m meth c b L xs D cA h1 h2) (kn : ∀ (SC SR : sT) (H : Heap) (locs : List Loc) (ls : Array Slot), Inv SC SR → va_P D vwCl (wC h1 cA SC) H → va_P D vwCl (wR h2 cA SR) H → va_S (fun q => s.heap.size ≤ q) s.heap H locs → lv_has ls 4 [(3, .int (nI i)), (2, .ref (h2 100)), (1, .ref (h1 1000)), (0, .ref b)] → W p l e room_1 s m #[Value.ref b] below meth c H locs 600000 7302250 (lw_Z below #[Value.ref b] s) (F0 m 1261 ls [])) {SC SR : sT} {H : Heap} {locs : List Loc} {ls : Array Slot} (hI : Inv SC SR) (hPC : va_P D vwCl (wC h1 cA SC) H) (hPR : va_P D vwCl (wR h2 cA SR) H) (hS : va_S (fun q => s.heap.size ≤ q) s.heap H locs) (hl : lv_has ls 4 [(3, .int (nI i)), (2, .ref (h2 100)), (1, .ref (h1 1000)), (0, .ref b)]) : W p l e room_1 s m #[Value.ref b] below meth c H locs 600000 7302250 (lw_Z below #[Value.ref b] s) (F0 m 1038 ls []) := by
  obtain ⟨CF, hr, hX, hbl, hlocks, hK, hz, hk1, hk2, hky1, hky2, hdis⟩ := X
  obtain ⟨hx, hb, hml, hown, hts⟩ := id CF
  have hbA : ¬ (fun q : Nat => s.heap.size ≤ q) b := Nat.not_le.mpr hbl
  refine lv_aload_n hx hb dL_law_1038 rfl (lv_at hl 2 rfl) ?_
  refine lv_aload_n hx hb dL_law_1039 rfl (lv_at hl 3 rfl) ?_
  refine lv_iload_n hx hb dL_law_1040 rfl (lv_at hl 0 rfl) ?_
  refine lv_iconst (v := 1) hx hb dL_law_1041 (by decide) ?_
  refine lv_iadd hx hb dL_law_1042 ?_
  refine va_sld hx hb hX hbl hbA hS (lw_ix (c := 1) hL hi (by decide)) dL_law_1043 ?_
  refine lv_aload_n hx hb dL_law_1044 rfl (lv_at hl 3 rfl) ?_
  refine lv_iload_n hx hb dL_law_1045 rfl (lv_at hl 0 rfl) ?_
  refine lv_iconst (v := 2) hx hb dL_law_1046 (by decide) ?_
  refine lv_iadd hx hb dL_law_1047 ?_
  refine va_sld hx hb hX hbl hbA hS (lw_ix (c := 2) hL hi (by decide)) dL_law_1048 ?_
  refine lv_aload_n hx hb dL_law_1049 rfl (lv_at hl 3 rfl) ?_
  refine lv_iload_n hx hb dL_law_1050 rfl (lv_at hl 0 rfl) ?_
  refine lv_iconst (v := 3) hx hb dL_law_1051 (by decide) ?_
  refine lv_iadd hx hb dL_law_1052 ?_
  refine va_sld hx hb hX hbl hbA hS (lw_ix (c := 3) hL hi (by decide)) dL_law_1053 ?_
  refine lw_i (n := 3) (rest := []) (w := wC h1 cA) (V := wR h2 cA SR) CF hK hz hk1 hPC hPR (fun i x hx k hk e => by obtain ⟨k2, hk2, e2⟩ := key_of (wR_fst h2 cA SR) hx; exact hdis k hk k2 hk2 (e.symm.trans e2)) hS (c_X4_odds l hky1 _ (hst _ _ _ SC SR hI)) (lwG_V lm_L_138 li_X4_odds lx_X4_odds lz_RX4 lc_X4_odds) (by decide +kernel) (oD_at h1 cA _) rfl rfl rfl (Nat.le_of_ble_eq_true rfl) ⟨rfl, rfl⟩ ⟨by decide, by decide⟩ dL_law_1054 hl.1 ⟨by decide, by decide⟩ (fun r SC H locs hd hPC hPR hS => ?_)
  refine lv_aload_n hx hb dL_law_1057 rfl (lv_at hl 1 rfl) ?_
  refine lv_aload_n hx hb dL_law_1058 rfl (lv_at hl 3 rfl) ?_
  refine lv_iload_n hx hb dL_law_1059 rfl (lv_at hl 0 rfl) ?_
  refine lv_iconst (v := 1) hx hb dL_law_1060 (by decide) ?_
  refine lv_iadd hx hb dL_law_1061 ?_
  refine va_sld hx hb hX hbl hbA hS (lw_ix (c := 1) hL hi (by decide)) dL_law_1062 ?_
  refine lv_aload_n hx hb dL_law_1063 rfl (lv_at hl 3 rfl) ?_
  refine lv_iload_n hx hb dL_law_1064 rfl (lv_at hl 0 rfl) ?_
  refine lv_iconst (v := 2) hx hb dL_law_1065 (by decide) ?_
  refine lv_iadd hx hb dL_law_1066 ?_
  refine va_sld hx hb hX hbl hbA hS (lw_ix (c := 2) hL hi (by decide)) dL_law_1067 ?_
  refine lv_aload_n hx hb dL_law_1068 rfl (lv_at hl 3 rfl) ?_
  refine lv_iload_n hx hb dL_law_1069 rfl (lv_at hl 0 rfl) ?_
  refine lv_iconst (v := 3) hx hb dL_law_1070 (by decide) ?_
  refine lv_iadd hx hb dL_law_1071 ?_
  refine va_sld hx hb hX hbl hbA hS (lw_ix (c := 3) hL hi (by decide)) dL_law_1072 ?_
  refine lw_i (n := 3) (rest := [.int r]) (w := wR h2 cA) (V := wC h1 cA SC) (b := false) CF hK (fun _ _ _ _ _ h => by cases h) hk2 hPR hPC (fun i x hx k hk e => by obtain ⟨k2, hk2, e2⟩ := key_of (wC_fst h1 cA SC) hx; exact hdis k2 hk2 k hk (e2.symm.trans e)) hS (c_X5_odds l hky2 _ hd) (lwG_V lm_L_141 li_X5_odds lx_X5_odds lz_RX5 lc_X5_odds) (by decide +kernel) (oR_at h2 cA _) rfl rfl rfl (Nat.le_of_ble_eq_true rfl) ⟨rfl, rfl⟩ ⟨by decide, by decide⟩ dL_law_1073 hl.1 ⟨by decide, by decide⟩ (fun r2 SR H locs hd hPR hPC hS => ?_)
  refine lv_icmp_eq (tgt := 1261) hx hb dL_law_1076 (by decide) (fun _ => ?_) (fun hc => absurd hd.1 hc)
  exact kn _ _ _ _ _ hd.2 hPC hPR hS hl
set_option maxHeartbeats 4000000 in
set_option maxRecDepth 100000 in
theorem lc_mid {p : Program} {l : Launch} {e : Env} {s : State} {m : MethodId} {below : List Frame} {meth : Method} {c : Code} {b L : Nat} {xs : Nat → Int32} {D : va_G} {cA : Nat → ClassId} {h1 h2 : Nat → Nat} {Inv : sT → sT → Prop} {i : Nat} (hst : st_mid Inv) (hL : L ≤ 384) (hi : i + 6 ≤ L) (X : lwX p s m meth c b L xs D cA h1 h2) (kn : ∀ (SC SR : sT) (H : Heap) (locs : List Loc) (ls : Array Slot), Inv SC SR → va_P D vwCl (wC h1 cA SC) H → va_P D vwCl (wR h2 cA SR) H → va_S (fun q => s.heap.size ≤ q) s.heap H locs → lv_has ls 4 [(3, .int (nI i)), (2, .ref (h2 100)), (1, .ref (h1 1000)), (0, .ref b)] → W p l e room_1 s m #[Value.ref b] below meth c H locs 600000 7302250 (lw_Z below #[Value.ref b] s) (F0 m 1261 ls [])) {SC SR : sT} {H : Heap} {locs : List Loc} {ls : Array Slot} (hI : Inv SC SR) (hPC : va_P D vwCl (wC h1 cA SC) H) (hPR : va_P D vwCl (wR h2 cA SR) H) (hS : va_S (fun q => s.heap.size ≤ q) s.heap H locs) (hl : lv_has ls 4 [(3, .int (nI i)), (2, .ref (h2 100)), (1, .ref (h1 1000)), (0, .ref b)]) : W p l e room_1 s m #[Value.ref b] below meth c H locs 600000 7302250 (lw_Z below #[Value.ref b] s) (F0 m 1081 ls []) := by
  obtain ⟨CF, hr, hX, hbl, hlocks, hK, hz, hk1, hk2, hky1, hky2, hdis⟩ := X
  obtain ⟨hx, hb, hml, hown, hts⟩ := id CF
  have hbA : ¬ (fun q : Nat => s.heap.size ≤ q) b := Nat.not_le.mpr hbl
  refine lv_aload_n hx hb dL_law_1081 rfl (lv_at hl 2 rfl) ?_
  refine lv_aload_n hx hb dL_law_1082 rfl (lv_at hl 3 rfl) ?_
  refine lv_iload_n hx hb dL_law_1083 rfl (lv_at hl 0 rfl) ?_
  refine lv_iconst (v := 1) hx hb dL_law_1084 (by decide) ?_
  refine lv_iadd hx hb dL_law_1085 ?_
  refine va_sld hx hb hX hbl hbA hS (lw_ix (c := 1) hL hi (by decide)) dL_law_1086 ?_
  refine lv_aload_n hx hb dL_law_1087 rfl (lv_at hl 3 rfl) ?_
  refine lv_iload_n hx hb dL_law_1088 rfl (lv_at hl 0 rfl) ?_
  refine lv_iconst (v := 2) hx hb dL_law_1089 (by decide) ?_
  refine lv_iadd hx hb dL_law_1090 ?_
  refine va_sld hx hb hX hbl hbA hS (lw_ix (c := 2) hL hi (by decide)) dL_law_1091 ?_
  refine lw_i (n := 2) (rest := []) (w := wC h1 cA) (V := wR h2 cA SR) CF hK hz hk1 hPC hPR (fun i x hx k hk e => by obtain ⟨k2, hk2, e2⟩ := key_of (wR_fst h2 cA SR) hx; exact hdis k hk k2 hk2 (e.symm.trans e2)) hS (c_X4_mid l hky1 _ (hst _ _ SC SR hI)) (lwG_V lm_L_142 li_X4_mid lx_X4_mid lz_RX4 lc_X4_mid) (by decide +kernel) (oD_at h1 cA _) rfl rfl rfl (Nat.le_of_ble_eq_true rfl) ⟨rfl, rfl⟩ ⟨by decide, by decide⟩ dL_law_1092 hl.1 ⟨by decide, by decide⟩ (fun r SC H locs hd hPC hPR hS => ?_)
  refine lv_aload_n hx hb dL_law_1095 rfl (lv_at hl 1 rfl) ?_
  refine lv_aload_n hx hb dL_law_1096 rfl (lv_at hl 3 rfl) ?_
  refine lv_iload_n hx hb dL_law_1097 rfl (lv_at hl 0 rfl) ?_
  refine lv_iconst (v := 1) hx hb dL_law_1098 (by decide) ?_
  refine lv_iadd hx hb dL_law_1099 ?_
  refine va_sld hx hb hX hbl hbA hS (lw_ix (c := 1) hL hi (by decide)) dL_law_1100 ?_
  refine lv_aload_n hx hb dL_law_1101 rfl (lv_at hl 3 rfl) ?_
  refine lv_iload_n hx hb dL_law_1102 rfl (lv_at hl 0 rfl) ?_
  refine lv_iconst (v := 2) hx hb dL_law_1103 (by decide) ?_
  refine lv_iadd hx hb dL_law_1104 ?_
  refine va_sld hx hb hX hbl hbA hS (lw_ix (c := 2) hL hi (by decide)) dL_law_1105 ?_
  refine lw_i (n := 2) (rest := [.int r]) (w := wR h2 cA) (V := wC h1 cA SC) (b := false) CF hK (fun _ _ _ _ _ h => by cases h) hk2 hPR hPC (fun i x hx k hk e => by obtain ⟨k2, hk2, e2⟩ := key_of (wC_fst h1 cA SC) hx; exact hdis k2 hk2 k hk (e2.symm.trans e)) hS (c_X5_mid l hky2 _ hd) (lwG_V lm_L_145 li_X5_mid lx_X5_mid lz_RX5 lc_X5_mid) (by decide +kernel) (oR_at h2 cA _) rfl rfl rfl (Nat.le_of_ble_eq_true rfl) ⟨rfl, rfl⟩ ⟨by decide, by decide⟩ dL_law_1106 hl.1 ⟨by decide, by decide⟩ (fun r2 SR H locs hd hPR hPC hS => ?_)
  refine lv_icmp_eq (tgt := 1261) hx hb dL_law_1109 (by decide) (fun _ => ?_) (fun hc => absurd hd.1 hc)
  exact kn _ _ _ _ _ hd.2 hPC hPR hS hl
set_option maxHeartbeats 4000000 in
set_option maxRecDepth 100000 in
theorem lc_lots {p : Program} {l : Launch} {e : Env} {s : State} {m : MethodId} {below : List Frame} {meth : Method} {c : Code} {b L : Nat} {xs : Nat → Int32} {D : va_G} {cA : Nat → ClassId} {h1 h2 : Nat → Nat} {Inv : sT → sT → Prop} {i : Nat} (hst : st_lots Inv) (hL : L ≤ 384) (hi : i + 6 ≤ L) (X : lwX p s m meth c b L xs D cA h1 h2) (kn : ∀ (SC SR : sT) (H : Heap) (locs : List Loc) (ls : Array Slot), Inv SC SR → va_P D vwCl (wC h1 cA SC) H → va_P D vwCl (wR h2 cA SR) H → va_S (fun q => s.heap.size ≤ q) s.heap H locs → lv_has ls 4 [(3, .int (nI i)), (2, .ref (h2 100)), (1, .ref (h1 1000)), (0, .ref b)] → W p l e room_1 s m #[Value.ref b] below meth c H locs 600000 7302250 (lw_Z below #[Value.ref b] s) (F0 m 1261 ls [])) {SC SR : sT} {H : Heap} {locs : List Loc} {ls : Array Slot} (hI : Inv SC SR) (hPC : va_P D vwCl (wC h1 cA SC) H) (hPR : va_P D vwCl (wR h2 cA SR) H) (hS : va_S (fun q => s.heap.size ≤ q) s.heap H locs) (hl : lv_has ls 4 [(3, .int (nI i)), (2, .ref (h2 100)), (1, .ref (h1 1000)), (0, .ref b)]) : W p l e room_1 s m #[Value.ref b] below meth c H locs 600000 7302250 (lw_Z below #[Value.ref b] s) (F0 m 1114 ls []) := by
  obtain ⟨CF, hr, hX, hbl, hlocks, hK, hz, hk1, hk2, hky1, hky2, hdis⟩ := X
  obtain ⟨hx, hb, hml, hown, hts⟩ := id CF
  have hbA : ¬ (fun q : Nat => s.heap.size ≤ q) b := Nat.not_le.mpr hbl
  refine lv_aload_n hx hb dL_law_1114 rfl (lv_at hl 2 rfl) ?_
  refine lv_aload_n hx hb dL_law_1115 rfl (lv_at hl 3 rfl) ?_
  refine lv_iload_n hx hb dL_law_1116 rfl (lv_at hl 0 rfl) ?_
  refine lv_iconst (v := 1) hx hb dL_law_1117 (by decide) ?_
  refine lv_iadd hx hb dL_law_1118 ?_
  refine va_sld hx hb hX hbl hbA hS (lw_ix (c := 1) hL hi (by decide)) dL_law_1119 ?_
  refine lv_aload_n hx hb dL_law_1120 rfl (lv_at hl 3 rfl) ?_
  refine lv_iload_n hx hb dL_law_1121 rfl (lv_at hl 0 rfl) ?_
  refine lv_iconst (v := 2) hx hb dL_law_1122 (by decide) ?_
  refine lv_iadd hx hb dL_law_1123 ?_
  refine va_sld hx hb hX hbl hbA hS (lw_ix (c := 2) hL hi (by decide)) dL_law_1124 ?_
  refine lw_i (n := 2) (rest := []) (w := wC h1 cA) (V := wR h2 cA SR) CF hK hz hk1 hPC hPR (fun i x hx k hk e => by obtain ⟨k2, hk2, e2⟩ := key_of (wR_fst h2 cA SR) hx; exact hdis k hk k2 hk2 (e.symm.trans e2)) hS (c_X4_lots l hky1 _ (hst _ _ SC SR hI)) (lwG_V lm_L_146 li_X4_lots lx_X4_lots lz_RX4 lc_X4_lots) (by decide +kernel) (oD_at h1 cA _) rfl rfl rfl (Nat.le_of_ble_eq_true rfl) ⟨rfl, rfl⟩ ⟨by decide, by decide⟩ dL_law_1125 hl.1 ⟨by decide, by decide⟩ (fun r SC H locs hd hPC hPR hS => ?_)
  refine lv_aload_n hx hb dL_law_1128 rfl (lv_at hl 1 rfl) ?_
  refine lv_aload_n hx hb dL_law_1129 rfl (lv_at hl 3 rfl) ?_
  refine lv_iload_n hx hb dL_law_1130 rfl (lv_at hl 0 rfl) ?_
  refine lv_iconst (v := 1) hx hb dL_law_1131 (by decide) ?_
  refine lv_iadd hx hb dL_law_1132 ?_
  refine va_sld hx hb hX hbl hbA hS (lw_ix (c := 1) hL hi (by decide)) dL_law_1133 ?_
  refine lv_aload_n hx hb dL_law_1134 rfl (lv_at hl 3 rfl) ?_
  refine lv_iload_n hx hb dL_law_1135 rfl (lv_at hl 0 rfl) ?_
  refine lv_iconst (v := 2) hx hb dL_law_1136 (by decide) ?_
  refine lv_iadd hx hb dL_law_1137 ?_
  refine va_sld hx hb hX hbl hbA hS (lw_ix (c := 2) hL hi (by decide)) dL_law_1138 ?_
  refine lw_i (n := 2) (rest := [.int r]) (w := wR h2 cA) (V := wC h1 cA SC) (b := false) CF hK (fun _ _ _ _ _ h => by cases h) hk2 hPR hPC (fun i x hx k hk e => by obtain ⟨k2, hk2, e2⟩ := key_of (wC_fst h1 cA SC) hx; exact hdis k2 hk2 k hk (e2.symm.trans e)) hS (c_X5_lots l hky2 _ hd) (lwG_V lm_L_149 li_X5_lots lx_X5_lots lz_RX5 lc_X5_lots) (by decide +kernel) (oR_at h2 cA _) rfl rfl rfl (Nat.le_of_ble_eq_true rfl) ⟨rfl, rfl⟩ ⟨by decide, by decide⟩ dL_law_1139 hl.1 ⟨by decide, by decide⟩ (fun r2 SR H locs hd hPR hPC hS => ?_)
  refine lv_icmp_eq (tgt := 1261) hx hb dL_law_1142 (by decide) (fun _ => ?_) (fun hc => absurd hd.1 hc)
  exact kn _ _ _ _ _ hd.2 hPC hPR hS hl
set_option maxHeartbeats 4000000 in
set_option maxRecDepth 100000 in
theorem lc_asked {p : Program} {l : Launch} {e : Env} {s : State} {m : MethodId} {below : List Frame} {meth : Method} {c : Code} {b L : Nat} {xs : Nat → Int32} {D : va_G} {cA : Nat → ClassId} {h1 h2 : Nat → Nat} {Inv : sT → sT → Prop} {i : Nat} (hst : st_asked Inv) (hL : L ≤ 384) (hi : i + 6 ≤ L) (X : lwX p s m meth c b L xs D cA h1 h2) (kn : ∀ (SC SR : sT) (H : Heap) (locs : List Loc) (ls : Array Slot), Inv SC SR → va_P D vwCl (wC h1 cA SC) H → va_P D vwCl (wR h2 cA SR) H → va_S (fun q => s.heap.size ≤ q) s.heap H locs → lv_has ls 4 [(3, .int (nI i)), (2, .ref (h2 100)), (1, .ref (h1 1000)), (0, .ref b)] → W p l e room_1 s m #[Value.ref b] below meth c H locs 600000 7302250 (lw_Z below #[Value.ref b] s) (F0 m 1261 ls [])) {SC SR : sT} {H : Heap} {locs : List Loc} {ls : Array Slot} (hI : Inv SC SR) (hPC : va_P D vwCl (wC h1 cA SC) H) (hPR : va_P D vwCl (wR h2 cA SR) H) (hS : va_S (fun q => s.heap.size ≤ q) s.heap H locs) (hl : lv_has ls 4 [(3, .int (nI i)), (2, .ref (h2 100)), (1, .ref (h1 1000)), (0, .ref b)]) : W p l e room_1 s m #[Value.ref b] below meth c H locs 600000 7302250 (lw_Z below #[Value.ref b] s) (F0 m 1147 ls []) := by
  obtain ⟨CF, hr, hX, hbl, hlocks, hK, hz, hk1, hk2, hky1, hky2, hdis⟩ := X
  obtain ⟨hx, hb, hml, hown, hts⟩ := id CF
  have hbA : ¬ (fun q : Nat => s.heap.size ≤ q) b := Nat.not_le.mpr hbl
  refine lv_aload_n hx hb dL_law_1147 rfl (lv_at hl 2 rfl) ?_
  refine lw_i (n := 0) (rest := []) (w := wC h1 cA) (V := wR h2 cA SR) CF hK hz hk1 hPC hPR (fun i x hx k hk e => by obtain ⟨k2, hk2, e2⟩ := key_of (wR_fst h2 cA SR) hx; exact hdis k hk k2 hk2 (e.symm.trans e2)) hS (c_X4_asked l hky1 _ (hst SC SR hI)) (lwG_V lm_L_150 li_X4_asked lx_X4_asked lz_RX4 lc_X4_asked) (by decide +kernel) (oD_at h1 cA _) rfl rfl rfl (Nat.le_of_ble_eq_true rfl) ⟨rfl, rfl⟩ ⟨by decide, by decide⟩ dL_law_1148 hl.1 ⟨by decide, by decide⟩ (fun r SC H locs hd hPC hPR hS => ?_)
  refine lv_aload_n hx hb dL_law_1151 rfl (lv_at hl 1 rfl) ?_
  refine lw_i (n := 0) (rest := [.int r]) (w := wR h2 cA) (V := wC h1 cA SC) (b := false) CF hK (fun _ _ _ _ _ h => by cases h) hk2 hPR hPC (fun i x hx k hk e => by obtain ⟨k2, hk2, e2⟩ := key_of (wC_fst h1 cA SC) hx; exact hdis k2 hk2 k hk (e2.symm.trans e)) hS (c_X5_asked l hky2 _ hd) (lwG_V lm_L_153 li_X5_asked lx_X5_asked lz_RX5 lc_X5_asked) (by decide +kernel) (oR_at h2 cA _) rfl rfl rfl (Nat.le_of_ble_eq_true rfl) ⟨rfl, rfl⟩ ⟨by decide, by decide⟩ dL_law_1152 hl.1 ⟨by decide, by decide⟩ (fun r2 SR H locs hd hPR hPC hS => ?_)
  refine lv_icmp_eq (tgt := 1261) hx hb dL_law_1155 (by decide) (fun _ => ?_) (fun hc => absurd hd.1 hc)
  exact kn _ _ _ _ _ hd.2 hPC hPR hS hl
set_option maxHeartbeats 4000000 in
set_option maxRecDepth 100000 in
theorem lc_upper {p : Program} {l : Launch} {e : Env} {s : State} {m : MethodId} {below : List Frame} {meth : Method} {c : Code} {b L : Nat} {xs : Nat → Int32} {D : va_G} {cA : Nat → ClassId} {h1 h2 : Nat → Nat} {Inv : sT → sT → Prop} {i : Nat} (hst : st_upper Inv) (hL : L ≤ 384) (hi : i + 6 ≤ L) (X : lwX p s m meth c b L xs D cA h1 h2) (kn : ∀ (SC SR : sT) (H : Heap) (locs : List Loc) (ls : Array Slot), Inv SC SR → va_P D vwCl (wC h1 cA SC) H → va_P D vwCl (wR h2 cA SR) H → va_S (fun q => s.heap.size ≤ q) s.heap H locs → lv_has ls 4 [(3, .int (nI i)), (2, .ref (h2 100)), (1, .ref (h1 1000)), (0, .ref b)] → W p l e room_1 s m #[Value.ref b] below meth c H locs 600000 7302250 (lw_Z below #[Value.ref b] s) (F0 m 1261 ls [])) {SC SR : sT} {H : Heap} {locs : List Loc} {ls : Array Slot} (hI : Inv SC SR) (hPC : va_P D vwCl (wC h1 cA SC) H) (hPR : va_P D vwCl (wR h2 cA SR) H) (hS : va_S (fun q => s.heap.size ≤ q) s.heap H locs) (hl : lv_has ls 4 [(3, .int (nI i)), (2, .ref (h2 100)), (1, .ref (h1 1000)), (0, .ref b)]) : W p l e room_1 s m #[Value.ref b] below meth c H locs 600000 7302250 (lw_Z below #[Value.ref b] s) (F0 m 1160 ls []) := by
  obtain ⟨CF, hr, hX, hbl, hlocks, hK, hz, hk1, hk2, hky1, hky2, hdis⟩ := X
  obtain ⟨hx, hb, hml, hown, hts⟩ := id CF
  have hbA : ¬ (fun q : Nat => s.heap.size ≤ q) b := Nat.not_le.mpr hbl
  refine lv_aload_n hx hb dL_law_1160 rfl (lv_at hl 2 rfl) ?_
  refine lw_l (n := 0) (rest := []) (w := wC h1 cA) (V := wR h2 cA SR) CF hK hz hk1 hPC hPR (fun i x hx k hk e => by obtain ⟨k2, hk2, e2⟩ := key_of (wR_fst h2 cA SR) hx; exact hdis k hk k2 hk2 (e.symm.trans e2)) hS (c_X4_upper l hky1 _ (hst SC SR hI)) (lwG_V lm_L_154 li_X4_upper lx_X4_upper lz_RX4 lc_X4_upper) (by decide +kernel) (oD_at h1 cA _) rfl rfl rfl (Nat.le_of_ble_eq_true rfl) ⟨rfl, rfl⟩ ⟨by decide, by decide⟩ dL_law_1161 hl.1 ⟨by decide, by decide⟩ (fun r SC H locs hd hPC hPR hS => ?_)
  refine lv_aload_n hx hb dL_law_1164 rfl (lv_at hl 1 rfl) ?_
  refine lw_l (n := 0) (rest := [.long r]) (w := wR h2 cA) (V := wC h1 cA SC) (b := false) CF hK (fun _ _ _ _ _ h => by cases h) hk2 hPR hPC (fun i x hx k hk e => by obtain ⟨k2, hk2, e2⟩ := key_of (wC_fst h1 cA SC) hx; exact hdis k2 hk2 k hk (e2.symm.trans e)) hS (c_X5_upper l hky2 _ hd) (lwG_V lm_L_158 li_X5_upper lx_X5_upper lz_RX5 lc_X5_upper) (by decide +kernel) (oR_at h2 cA _) rfl rfl rfl (Nat.le_of_ble_eq_true rfl) ⟨rfl, rfl⟩ ⟨by decide, by decide⟩ dL_law_1165 hl.1 ⟨by decide, by decide⟩ (fun r2 SR H locs hd hPR hPC hS => ?_)
  refine W.lcmp hx hb dL_law_1168 ?_
  refine lv_if_eq (tgt := 1261) hx hb dL_law_1169 (by decide) (fun _ => ?_) (fun hc => absurd (by rw [hd.1]; exact lg_cmp_self _) hc)
  exact kn _ _ _ _ _ hd.2 hPC hPR hS hl
set_option maxHeartbeats 4000000 in
set_option maxRecDepth 100000 in
theorem lc_lower {p : Program} {l : Launch} {e : Env} {s : State} {m : MethodId} {below : List Frame} {meth : Method} {c : Code} {b L : Nat} {xs : Nat → Int32} {D : va_G} {cA : Nat → ClassId} {h1 h2 : Nat → Nat} {Inv : sT → sT → Prop} {i : Nat} (hst : st_lower Inv) (hL : L ≤ 384) (hi : i + 6 ≤ L) (X : lwX p s m meth c b L xs D cA h1 h2) (kn : ∀ (SC SR : sT) (H : Heap) (locs : List Loc) (ls : Array Slot), Inv SC SR → va_P D vwCl (wC h1 cA SC) H → va_P D vwCl (wR h2 cA SR) H → va_S (fun q => s.heap.size ≤ q) s.heap H locs → lv_has ls 4 [(3, .int (nI i)), (2, .ref (h2 100)), (1, .ref (h1 1000)), (0, .ref b)] → W p l e room_1 s m #[Value.ref b] below meth c H locs 600000 7302250 (lw_Z below #[Value.ref b] s) (F0 m 1261 ls [])) {SC SR : sT} {H : Heap} {locs : List Loc} {ls : Array Slot} (hI : Inv SC SR) (hPC : va_P D vwCl (wC h1 cA SC) H) (hPR : va_P D vwCl (wR h2 cA SR) H) (hS : va_S (fun q => s.heap.size ≤ q) s.heap H locs) (hl : lv_has ls 4 [(3, .int (nI i)), (2, .ref (h2 100)), (1, .ref (h1 1000)), (0, .ref b)]) : W p l e room_1 s m #[Value.ref b] below meth c H locs 600000 7302250 (lw_Z below #[Value.ref b] s) (F0 m 1174 ls []) := by
  obtain ⟨CF, hr, hX, hbl, hlocks, hK, hz, hk1, hk2, hky1, hky2, hdis⟩ := X
  obtain ⟨hx, hb, hml, hown, hts⟩ := id CF
  have hbA : ¬ (fun q : Nat => s.heap.size ≤ q) b := Nat.not_le.mpr hbl
  refine lv_aload_n hx hb dL_law_1174 rfl (lv_at hl 2 rfl) ?_
  refine lw_l (n := 0) (rest := []) (w := wC h1 cA) (V := wR h2 cA SR) CF hK hz hk1 hPC hPR (fun i x hx k hk e => by obtain ⟨k2, hk2, e2⟩ := key_of (wR_fst h2 cA SR) hx; exact hdis k hk k2 hk2 (e.symm.trans e2)) hS (c_X4_lower l hky1 _ (hst SC SR hI)) (lwG_V lm_L_159 li_X4_lower lx_X4_lower lz_RX4 lc_X4_lower) (by decide +kernel) (oD_at h1 cA _) rfl rfl rfl (Nat.le_of_ble_eq_true rfl) ⟨rfl, rfl⟩ ⟨by decide, by decide⟩ dL_law_1175 hl.1 ⟨by decide, by decide⟩ (fun r SC H locs hd hPC hPR hS => ?_)
  refine lv_aload_n hx hb dL_law_1178 rfl (lv_at hl 1 rfl) ?_
  refine lw_l (n := 0) (rest := [.long r]) (w := wR h2 cA) (V := wC h1 cA SC) (b := false) CF hK (fun _ _ _ _ _ h => by cases h) hk2 hPR hPC (fun i x hx k hk e => by obtain ⟨k2, hk2, e2⟩ := key_of (wC_fst h1 cA SC) hx; exact hdis k2 hk2 k hk (e2.symm.trans e)) hS (c_X5_lower l hky2 _ hd) (lwG_V lm_L_162 li_X5_lower lx_X5_lower lz_RX5 lc_X5_lower) (by decide +kernel) (oR_at h2 cA _) rfl rfl rfl (Nat.le_of_ble_eq_true rfl) ⟨rfl, rfl⟩ ⟨by decide, by decide⟩ dL_law_1179 hl.1 ⟨by decide, by decide⟩ (fun r2 SR H locs hd hPR hPC hS => ?_)
  refine W.lcmp hx hb dL_law_1182 ?_
  refine lv_if_eq (tgt := 1261) hx hb dL_law_1183 (by decide) (fun _ => ?_) (fun hc => absurd (by rw [hd.1]; exact lg_cmp_self _) hc)
  exact kn _ _ _ _ _ hd.2 hPC hPR hS hl
set_option maxHeartbeats 4000000 in
set_option maxRecDepth 100000 in
theorem lc_count {p : Program} {l : Launch} {e : Env} {s : State} {m : MethodId} {below : List Frame} {meth : Method} {c : Code} {b L : Nat} {xs : Nat → Int32} {D : va_G} {cA : Nat → ClassId} {h1 h2 : Nat → Nat} {Inv : sT → sT → Prop} {i : Nat} (hst : st_count Inv) (hL : L ≤ 384) (hi : i + 6 ≤ L) (X : lwX p s m meth c b L xs D cA h1 h2) (kn : ∀ (SC SR : sT) (H : Heap) (locs : List Loc) (ls : Array Slot), Inv SC SR → va_P D vwCl (wC h1 cA SC) H → va_P D vwCl (wR h2 cA SR) H → va_S (fun q => s.heap.size ≤ q) s.heap H locs → lv_has ls 4 [(3, .int (nI i)), (2, .ref (h2 100)), (1, .ref (h1 1000)), (0, .ref b)] → W p l e room_1 s m #[Value.ref b] below meth c H locs 600000 7302250 (lw_Z below #[Value.ref b] s) (F0 m 1261 ls [])) {SC SR : sT} {H : Heap} {locs : List Loc} {ls : Array Slot} (hI : Inv SC SR) (hPC : va_P D vwCl (wC h1 cA SC) H) (hPR : va_P D vwCl (wR h2 cA SR) H) (hS : va_S (fun q => s.heap.size ≤ q) s.heap H locs) (hl : lv_has ls 4 [(3, .int (nI i)), (2, .ref (h2 100)), (1, .ref (h1 1000)), (0, .ref b)]) : W p l e room_1 s m #[Value.ref b] below meth c H locs 600000 7302250 (lw_Z below #[Value.ref b] s) (F0 m 1188 ls []) := by
  obtain ⟨CF, hr, hX, hbl, hlocks, hK, hz, hk1, hk2, hky1, hky2, hdis⟩ := X
  obtain ⟨hx, hb, hml, hown, hts⟩ := id CF
  have hbA : ¬ (fun q : Nat => s.heap.size ≤ q) b := Nat.not_le.mpr hbl
  refine lv_aload_n hx hb dL_law_1188 rfl (lv_at hl 2 rfl) ?_
  refine lv_aload_n hx hb dL_law_1189 rfl (lv_at hl 3 rfl) ?_
  refine lv_iload_n hx hb dL_law_1190 rfl (lv_at hl 0 rfl) ?_
  refine lv_iconst (v := 1) hx hb dL_law_1191 (by decide) ?_
  refine lv_iadd hx hb dL_law_1192 ?_
  refine va_sld hx hb hX hbl hbA hS (lw_ix (c := 1) hL hi (by decide)) dL_law_1193 ?_
  refine lw_i (n := 1) (rest := []) (w := wC h1 cA) (V := wR h2 cA SR) CF hK hz hk1 hPC hPR (fun i x hx k hk e => by obtain ⟨k2, hk2, e2⟩ := key_of (wR_fst h2 cA SR) hx; exact hdis k hk k2 hk2 (e.symm.trans e2)) hS (c_X4_count l hky1 _ (hst _ SC SR hI)) (lwG_V lm_L_163 li_X4_count lx_X4_count lz_RX4 lc_X4_count) (by decide +kernel) (oD_at h1 cA _) rfl rfl rfl (Nat.le_of_ble_eq_true rfl) ⟨rfl, rfl⟩ ⟨by decide, by decide⟩ dL_law_1194 hl.1 ⟨by decide, by decide⟩ (fun r SC H locs hd hPC hPR hS => ?_)
  refine lv_aload_n hx hb dL_law_1197 rfl (lv_at hl 1 rfl) ?_
  refine lv_aload_n hx hb dL_law_1198 rfl (lv_at hl 3 rfl) ?_
  refine lv_iload_n hx hb dL_law_1199 rfl (lv_at hl 0 rfl) ?_
  refine lv_iconst (v := 1) hx hb dL_law_1200 (by decide) ?_
  refine lv_iadd hx hb dL_law_1201 ?_
  refine va_sld hx hb hX hbl hbA hS (lw_ix (c := 1) hL hi (by decide)) dL_law_1202 ?_
  refine lw_i (n := 1) (rest := [.int r]) (w := wR h2 cA) (V := wC h1 cA SC) (b := false) CF hK (fun _ _ _ _ _ h => by cases h) hk2 hPR hPC (fun i x hx k hk e => by obtain ⟨k2, hk2, e2⟩ := key_of (wC_fst h1 cA SC) hx; exact hdis k2 hk2 k hk (e2.symm.trans e)) hS (c_X5_count l hky2 _ hd) (lwG_V lm_L_166 li_X5_count lx_X5_count lz_RX5 lc_X5_count) (by decide +kernel) (oR_at h2 cA _) rfl rfl rfl (Nat.le_of_ble_eq_true rfl) ⟨rfl, rfl⟩ ⟨by decide, by decide⟩ dL_law_1203 hl.1 ⟨by decide, by decide⟩ (fun r2 SR H locs hd hPR hPC hS => ?_)
  refine lv_icmp_eq (tgt := 1261) hx hb dL_law_1206 (by decide) (fun _ => ?_) (fun hc => absurd hd.1 hc)
  exact kn _ _ _ _ _ hd.2 hPC hPR hS hl
set_option maxHeartbeats 4000000 in
set_option maxRecDepth 100000 in
theorem lc_finding {p : Program} {l : Launch} {e : Env} {s : State} {m : MethodId} {below : List Frame} {meth : Method} {c : Code} {b L : Nat} {xs : Nat → Int32} {D : va_G} {cA : Nat → ClassId} {h1 h2 : Nat → Nat} {Inv : sT → sT → Prop} {i : Nat} (hst : st_finding Inv) (hL : L ≤ 384) (hi : i + 6 ≤ L) (X : lwX p s m meth c b L xs D cA h1 h2) (kn : ∀ (SC SR : sT) (H : Heap) (locs : List Loc) (ls : Array Slot), Inv SC SR → va_P D vwCl (wC h1 cA SC) H → va_P D vwCl (wR h2 cA SR) H → va_S (fun q => s.heap.size ≤ q) s.heap H locs → lv_has ls 4 [(3, .int (nI i)), (2, .ref (h2 100)), (1, .ref (h1 1000)), (0, .ref b)] → W p l e room_1 s m #[Value.ref b] below meth c H locs 600000 7302250 (lw_Z below #[Value.ref b] s) (F0 m 1261 ls [])) {SC SR : sT} {H : Heap} {locs : List Loc} {ls : Array Slot} (hI : Inv SC SR) (hPC : va_P D vwCl (wC h1 cA SC) H) (hPR : va_P D vwCl (wR h2 cA SR) H) (hS : va_S (fun q => s.heap.size ≤ q) s.heap H locs) (hl : lv_has ls 4 [(3, .int (nI i)), (2, .ref (h2 100)), (1, .ref (h1 1000)), (0, .ref b)]) : W p l e room_1 s m #[Value.ref b] below meth c H locs 600000 7302250 (lw_Z below #[Value.ref b] s) (F0 m 1211 ls []) := by
  obtain ⟨CF, hr, hX, hbl, hlocks, hK, hz, hk1, hk2, hky1, hky2, hdis⟩ := X
  obtain ⟨hx, hb, hml, hown, hts⟩ := id CF
  have hbA : ¬ (fun q : Nat => s.heap.size ≤ q) b := Nat.not_le.mpr hbl
  refine lv_aload_n hx hb dL_law_1211 rfl (lv_at hl 2 rfl) ?_
  refine lw_i (n := 0) (rest := []) (w := wC h1 cA) (V := wR h2 cA SR) CF hK hz hk1 hPC hPR (fun i x hx k hk e => by obtain ⟨k2, hk2, e2⟩ := key_of (wR_fst h2 cA SR) hx; exact hdis k hk k2 hk2 (e.symm.trans e2)) hS (c_X4_finding l hky1 _ (hst SC SR hI)) (lwG_V lm_L_167 li_X4_finding lx_X4_finding lz_RX4 lc_X4_finding) (by decide +kernel) (oD_at h1 cA _) rfl rfl rfl (Nat.le_of_ble_eq_true rfl) ⟨rfl, rfl⟩ ⟨by decide, by decide⟩ dL_law_1212 hl.1 ⟨by decide, by decide⟩ (fun r SC H locs hd hPC hPR hS => ?_)
  refine lv_aload_n hx hb dL_law_1215 rfl (lv_at hl 1 rfl) ?_
  refine lw_i (n := 0) (rest := [.int r]) (w := wR h2 cA) (V := wC h1 cA SC) (b := false) CF hK (fun _ _ _ _ _ h => by cases h) hk2 hPR hPC (fun i x hx k hk e => by obtain ⟨k2, hk2, e2⟩ := key_of (wC_fst h1 cA SC) hx; exact hdis k2 hk2 k hk (e2.symm.trans e)) hS (c_X5_finding l hky2 _ hd) (lwG_V lm_L_170 li_X5_finding lx_X5_finding lz_RX5 lc_X5_finding) (by decide +kernel) (oR_at h2 cA _) rfl rfl rfl (Nat.le_of_ble_eq_true rfl) ⟨rfl, rfl⟩ ⟨by decide, by decide⟩ dL_law_1216 hl.1 ⟨by decide, by decide⟩ (fun r2 SR H locs hd hPR hPC hS => ?_)
  refine lv_icmp_eq (tgt := 1261) hx hb dL_law_1219 (by decide) (fun _ => ?_) (fun hc => absurd hd.1 hc)
  exact kn _ _ _ _ _ hd.2 hPC hPR hS hl
set_option maxHeartbeats 4000000 in
set_option maxRecDepth 100000 in
theorem lc_findings {p : Program} {l : Launch} {e : Env} {s : State} {m : MethodId} {below : List Frame} {meth : Method} {c : Code} {b L : Nat} {xs : Nat → Int32} {D : va_G} {cA : Nat → ClassId} {h1 h2 : Nat → Nat} {Inv : sT → sT → Prop} {i : Nat} (hst : st_findings Inv) (hL : L ≤ 384) (hi : i + 6 ≤ L) (X : lwX p s m meth c b L xs D cA h1 h2) (kn : ∀ (SC SR : sT) (H : Heap) (locs : List Loc) (ls : Array Slot), Inv SC SR → va_P D vwCl (wC h1 cA SC) H → va_P D vwCl (wR h2 cA SR) H → va_S (fun q => s.heap.size ≤ q) s.heap H locs → lv_has ls 4 [(3, .int (nI i)), (2, .ref (h2 100)), (1, .ref (h1 1000)), (0, .ref b)] → W p l e room_1 s m #[Value.ref b] below meth c H locs 600000 7302250 (lw_Z below #[Value.ref b] s) (F0 m 1261 ls [])) {SC SR : sT} {H : Heap} {locs : List Loc} {ls : Array Slot} (hI : Inv SC SR) (hPC : va_P D vwCl (wC h1 cA SC) H) (hPR : va_P D vwCl (wR h2 cA SR) H) (hS : va_S (fun q => s.heap.size ≤ q) s.heap H locs) (hl : lv_has ls 4 [(3, .int (nI i)), (2, .ref (h2 100)), (1, .ref (h1 1000)), (0, .ref b)]) : W p l e room_1 s m #[Value.ref b] below meth c H locs 600000 7302250 (lw_Z below #[Value.ref b] s) (F0 m 1224 ls []) := by
  obtain ⟨CF, hr, hX, hbl, hlocks, hK, hz, hk1, hk2, hky1, hky2, hdis⟩ := X
  obtain ⟨hx, hb, hml, hown, hts⟩ := id CF
  have hbA : ¬ (fun q : Nat => s.heap.size ≤ q) b := Nat.not_le.mpr hbl
  refine lv_aload_n hx hb dL_law_1224 rfl (lv_at hl 2 rfl) ?_
  refine lv_aload_n hx hb dL_law_1225 rfl (lv_at hl 3 rfl) ?_
  refine lv_iload_n hx hb dL_law_1226 rfl (lv_at hl 0 rfl) ?_
  refine lv_iconst (v := 1) hx hb dL_law_1227 (by decide) ?_
  refine lv_iadd hx hb dL_law_1228 ?_
  refine va_sld hx hb hX hbl hbA hS (lw_ix (c := 1) hL hi (by decide)) dL_law_1229 ?_
  refine lw_i (n := 1) (rest := []) (w := wC h1 cA) (V := wR h2 cA SR) CF hK hz hk1 hPC hPR (fun i x hx k hk e => by obtain ⟨k2, hk2, e2⟩ := key_of (wR_fst h2 cA SR) hx; exact hdis k hk k2 hk2 (e.symm.trans e2)) hS (c_X4_findings l hky1 _ (hst _ SC SR hI)) (lwG_V lm_L_171 li_X4_findings lx_X4_findings lz_RX4 lc_X4_findings) (by decide +kernel) (oD_at h1 cA _) rfl rfl rfl (Nat.le_of_ble_eq_true rfl) ⟨rfl, rfl⟩ ⟨by decide, by decide⟩ dL_law_1230 hl.1 ⟨by decide, by decide⟩ (fun r SC H locs hd hPC hPR hS => ?_)
  refine lv_aload_n hx hb dL_law_1233 rfl (lv_at hl 1 rfl) ?_
  refine lv_aload_n hx hb dL_law_1234 rfl (lv_at hl 3 rfl) ?_
  refine lv_iload_n hx hb dL_law_1235 rfl (lv_at hl 0 rfl) ?_
  refine lv_iconst (v := 1) hx hb dL_law_1236 (by decide) ?_
  refine lv_iadd hx hb dL_law_1237 ?_
  refine va_sld hx hb hX hbl hbA hS (lw_ix (c := 1) hL hi (by decide)) dL_law_1238 ?_
  refine lw_i (n := 1) (rest := [.int r]) (w := wR h2 cA) (V := wC h1 cA SC) (b := false) CF hK (fun _ _ _ _ _ h => by cases h) hk2 hPR hPC (fun i x hx k hk e => by obtain ⟨k2, hk2, e2⟩ := key_of (wC_fst h1 cA SC) hx; exact hdis k2 hk2 k hk (e2.symm.trans e)) hS (c_X5_findings l hky2 _ hd) (lwG_V lm_L_174 li_X5_findings lx_X5_findings lz_RX5 lc_X5_findings) (by decide +kernel) (oR_at h2 cA _) rfl rfl rfl (Nat.le_of_ble_eq_true rfl) ⟨rfl, rfl⟩ ⟨by decide, by decide⟩ dL_law_1239 hl.1 ⟨by decide, by decide⟩ (fun r2 SR H locs hd hPR hPC hS => ?_)
  refine lv_icmp_eq (tgt := 1261) hx hb dL_law_1242 (by decide) (fun _ => ?_) (fun hc => absurd hd.1 hc)
  exact kn _ _ _ _ _ hd.2 hPC hPR hS hl
set_option maxHeartbeats 4000000 in
set_option maxRecDepth 100000 in
theorem lc_digest {p : Program} {l : Launch} {e : Env} {s : State} {m : MethodId} {below : List Frame} {meth : Method} {c : Code} {b L : Nat} {xs : Nat → Int32} {D : va_G} {cA : Nat → ClassId} {h1 h2 : Nat → Nat} {Inv : sT → sT → Prop} {i : Nat} (hst : st_digest Inv) (hL : L ≤ 384) (hi : i + 6 ≤ L) (X : lwX p s m meth c b L xs D cA h1 h2) (kn : ∀ (SC SR : sT) (H : Heap) (locs : List Loc) (ls : Array Slot), Inv SC SR → va_P D vwCl (wC h1 cA SC) H → va_P D vwCl (wR h2 cA SR) H → va_S (fun q => s.heap.size ≤ q) s.heap H locs → lv_has ls 4 [(3, .int (nI i)), (2, .ref (h2 100)), (1, .ref (h1 1000)), (0, .ref b)] → W p l e room_1 s m #[Value.ref b] below meth c H locs 600000 7302250 (lw_Z below #[Value.ref b] s) (F0 m 1261 ls [])) {SC SR : sT} {H : Heap} {locs : List Loc} {ls : Array Slot} (hI : Inv SC SR) (hPC : va_P D vwCl (wC h1 cA SC) H) (hPR : va_P D vwCl (wR h2 cA SR) H) (hS : va_S (fun q => s.heap.size ≤ q) s.heap H locs) (hl : lv_has ls 4 [(3, .int (nI i)), (2, .ref (h2 100)), (1, .ref (h1 1000)), (0, .ref b)]) : W p l e room_1 s m #[Value.ref b] below meth c H locs 600000 7302250 (lw_Z below #[Value.ref b] s) (F0 m 1247 ls []) := by
  obtain ⟨CF, hr, hX, hbl, hlocks, hK, hz, hk1, hk2, hky1, hky2, hdis⟩ := X
  obtain ⟨hx, hb, hml, hown, hts⟩ := id CF
  have hbA : ¬ (fun q : Nat => s.heap.size ≤ q) b := Nat.not_le.mpr hbl
  refine lv_aload_n hx hb dL_law_1247 rfl (lv_at hl 2 rfl) ?_
  refine lw_l (n := 0) (rest := []) (w := wC h1 cA) (V := wR h2 cA SR) CF hK hz hk1 hPC hPR (fun i x hx k hk e => by obtain ⟨k2, hk2, e2⟩ := key_of (wR_fst h2 cA SR) hx; exact hdis k hk k2 hk2 (e.symm.trans e2)) hS (c_X4_digest l hky1 _ (hst SC SR hI)) (lwG_V lm_L_175 li_X4_digest lx_X4_digest lz_RX4 lc_X4_digest) (by decide +kernel) (oD_at h1 cA _) rfl rfl rfl (Nat.le_of_ble_eq_true rfl) ⟨rfl, rfl⟩ ⟨by decide, by decide⟩ dL_law_1248 hl.1 ⟨by decide, by decide⟩ (fun r SC H locs hd hPC hPR hS => ?_)
  refine lv_aload_n hx hb dL_law_1251 rfl (lv_at hl 1 rfl) ?_
  refine lw_l (n := 0) (rest := [.long r]) (w := wR h2 cA) (V := wC h1 cA SC) (b := false) CF hK (fun _ _ _ _ _ h => by cases h) hk2 hPR hPC (fun i x hx k hk e => by obtain ⟨k2, hk2, e2⟩ := key_of (wC_fst h1 cA SC) hx; exact hdis k2 hk2 k hk (e2.symm.trans e)) hS (c_X5_digest l hky2 _ hd) (lwG_V lm_L_178 li_X5_digest lx_X5_digest lz_RX5 lc_X5_digest) (by decide +kernel) (oR_at h2 cA _) rfl rfl rfl (Nat.le_of_ble_eq_true rfl) ⟨rfl, rfl⟩ ⟨by decide, by decide⟩ dL_law_1252 hl.1 ⟨by decide, by decide⟩ (fun r2 SR H locs hd hPR hPC hS => ?_)
  refine W.lcmp hx hb dL_law_1255 ?_
  refine lv_if_eq (tgt := 1261) hx hb dL_law_1256 (by decide) (fun _ => ?_) (fun hc => absurd (by rw [hd.1]; exact lg_cmp_self _) hc)
  exact kn _ _ _ _ _ hd.2 hPC hPR hS hl
