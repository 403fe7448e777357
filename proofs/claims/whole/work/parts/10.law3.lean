set_option maxHeartbeats 8000000 in
set_option maxRecDepth 100000 in
theorem law_loop {p : Program} {l : Launch} {e : Env} {s : State} {m : MethodId} {below : List Frame} {meth : Method} {c : Code} {b L : Nat} {xs : Nat → Int32} {D : va_G} {cA : Nat → ClassId} {h1 h2 : Nat → Nat} {Inv : sT → sT → Prop} (hst : stp Inv) (hL : L ≤ 384) (X : lwX p s m meth c b L xs D cA h1 h2) : ∀ (n i : Nat) (SC SR : sT) (H : Heap) (locs : List Loc) (ls : Array Slot), i ≤ L → L - i < n → Inv SC SR → va_P D vwCl (wC h1 cA SC) H → va_P D vwCl (wR h2 cA SR) H → va_S (fun q => s.heap.size ≤ q) s.heap H locs → lv_has ls 4 [(3, .int (nI i)), (2, .ref (h2 100)), (1, .ref (h1 1000)), (0, .ref b)] → W p l e room_1 s m #[Value.ref b] below meth c H locs 600000 7302250 (lw_Z below #[Value.ref b] s) (F0 m 18 ls []) := by
  obtain ⟨CF, hr, hX, hbl, hlocks, hK, hz, hk1, hk2, hky1, hky2, hdis⟩ := id X
  obtain ⟨hx, hb, hml, hown, hts⟩ := id CF
  have hbA : ¬ (fun q : Nat => s.heap.size ≤ q) b := Nat.not_le.mpr hbl
  intro n
  induction n with
  | zero => intro i SC SR H locs ls hi hn; omega
  | succ n ih =>
    intro i SC SR H locs ls hi hn hI hPC hPR hS hl
    unfold stp at hst
    refine lv_iload_n hx hb dL_law_18 rfl (lv_at hl 0 rfl) ?_
    refine lv_aload_n hx hb dL_law_19 rfl (lv_at hl 3 rfl) ?_
    refine va_slen hx hb hX hbl hbA hS dL_law_20 ?_
    refine lv_bipush (v := 6) hx hb dL_law_21 (by decide) ?_
    refine lv_isub hx hb dL_law_23 ?_
    refine lv_icmp_gt (tgt := 1267) hx hb dL_law_24 (by decide) (fun hc => ?_) (fun hc => ?_)
    · refine lv_iconst (v := 1) hx hb dL_law_1267 (by decide) ?_
      refine va_forget (fun q hq => hS.2.2 q hq) ?_
      exact lw_ret hx hb hr hlocks dL_law_1268
    · have hi6 : i + 6 ≤ L := lw_le hL hi hc
      have kn : ∀ (SC SR : sT) (H : Heap) (locs : List Loc) (ls : Array Slot), Inv SC SR → va_P D vwCl (wC h1 cA SC) H → va_P D vwCl (wR h2 cA SR) H → va_S (fun q => s.heap.size ≤ q) s.heap H locs → lv_has ls 4 [(3, .int (nI i)), (2, .ref (h2 100)), (1, .ref (h1 1000)), (0, .ref b)] → W p l e room_1 s m #[Value.ref b] below meth c H locs 600000 7302250 (lw_Z below #[Value.ref b] s) (F0 m 1261 ls []) := by
        intro SC SR H locs ls hI hPC hPR hS hl
        refine lv_iinc (v := nI (i + 6)) (lv' := [(3, .int (nI (i + 6))), (2, .ref (h2 100)), (1, .ref (h1 1000)), (0, .ref b)]) hx hb dL_law_1261 hl (k := 0) rfl (nI_add i 6) (by decide) rfl (fun ls hl => ?_)
        refine lv_goto (tgt := 18) hx hb dL_law_1264 (by decide) ?_
        exact ih (i + 6) SC SR H locs ls (by omega) (by omega) hI hPC hPR hS hl
      refine lv_aload_n hx hb dL_law_27 rfl (lv_at hl 3 rfl) ?_
      refine lv_iload_n hx hb dL_law_28 rfl (lv_at hl 0 rfl) ?_
      refine va_sld hx hb hX hbl hbA hS (vp_in_nI (show i < L by omega) (by omega)) dL_law_29 ?_
      refine lv_bipush (v := 63) hx hb dL_law_30 (by decide) ?_
      refine lv_iand hx hb dL_law_32 ?_
      refine lv_topi (fun z ez => ?_)
      by_cases h0 : z = 0
      · refine lv_tableIn (off := 175) (tgt := 208) hx hb dL_law_33 (by rw [h0]; decide) (by rw [h0]; decide) (by rw [h0]; decide) (by decide) ?_
        exact lc_row (hst.1) hL hi6 X kn hI hPC hPR hS hl
      by_cases h1 : z = 1
      · refine lv_tableIn (off := 208) (tgt := 241) hx hb dL_law_33 (by rw [h1]; decide) (by rw [h1]; decide) (by rw [h1]; decide) (by decide) ?_
        exact lc_lay (hst.2.1) hL hi6 X kn hI hPC hPR hS hl
      by_cases h2 : z = 2
      · refine lv_tableIn (off := 251) (tgt := 284) hx hb dL_law_33 (by rw [h2]; decide) (by rw [h2]; decide) (by rw [h2]; decide) (by decide) ?_
        exact lc_at (hst.2.2.1) hL hi6 X kn hI hPC hPR hS hl
      by_cases h3 : z = 3
      · refine lv_tableIn (off := 284) (tgt := 317) hx hb dL_law_33 (by rw [h3]; decide) (by rw [h3]; decide) (by rw [h3]; decide) (by decide) ?_
        exact lc_tear (hst.2.2.2.1) hL hi6 X kn hI hPC hPR hS hl
      by_cases h4 : z = 4
      · refine lv_tableIn (off := 307) (tgt := 340) hx hb dL_law_33 (by rw [h4]; decide) (by rw [h4]; decide) (by rw [h4]; decide) (by decide) ?_
        exact lc_copy (hst.2.2.2.2.1) hL hi6 X kn hI hPC hPR hS hl
      by_cases h5 : z = 5
      · refine lv_tableIn (off := 370) (tgt := 403) hx hb dL_law_33 (by rw [h5]; decide) (by rw [h5]; decide) (by rw [h5]; decide) (by decide) ?_
        exact lc_mean (hst.2.2.2.2.2.1) hL hi6 X kn hI hPC hPR hS hl
      by_cases h6 : z = 6
      · refine lv_tableIn (off := 393) (tgt := 426) hx hb dL_law_33 (by rw [h6]; decide) (by rw [h6]; decide) (by rw [h6]; decide) (by decide) ?_
        exact lc_text (hst.2.2.2.2.2.2.1) hL hi6 X kn hI hPC hPR hS hl
      by_cases h7 : z = 7
      · refine lv_tableIn (off := 426) (tgt := 459) hx hb dL_law_33 (by rw [h7]; decide) (by rw [h7]; decide) (by rw [h7]; decide) (by decide) ?_
        exact lc_put (hst.2.2.2.2.2.2.2.1) hL hi6 X kn hI hPC hPR hS hl
      by_cases h8 : z = 8
      · refine lv_tableIn (off := 469) (tgt := 502) hx hb dL_law_33 (by rw [h8]; decide) (by rw [h8]; decide) (by rw [h8]; decide) (by decide) ?_
        exact lc_fault (hst.2.2.2.2.2.2.2.2.1) hL hi6 X kn hI hPC hPR hS hl
      by_cases h9 : z = 9
      · refine lv_tableIn (off := 492) (tgt := 525) hx hb dL_law_33 (by rw [h9]; decide) (by rw [h9]; decide) (by rw [h9]; decide) (by decide) ?_
        exact lc_line (hst.2.2.2.2.2.2.2.2.2.1) hL hi6 X kn hI hPC hPR hS hl
      by_cases h10 : z = 10
      · refine lv_tableIn (off := 515) (tgt := 548) hx hb dL_law_33 (by rw [h10]; decide) (by rw [h10]; decide) (by rw [h10]; decide) (by decide) ?_
        exact lc_sleeper (hst.2.2.2.2.2.2.2.2.2.2.1) hL hi6 X kn hI hPC hPR hS hl
      by_cases h11 : z = 11
      · refine lv_tableIn (off := 548) (tgt := 581) hx hb dL_law_33 (by rw [h11]; decide) (by rw [h11]; decide) (by rw [h11]; decide) (by decide) ?_
        exact lc_mark (hst.2.2.2.2.2.2.2.2.2.2.2.1) hL hi6 X kn hI hPC hPR hS hl
      by_cases h12 : z = 12
      · refine lv_tableIn (off := 581) (tgt := 614) hx hb dL_law_33 (by rw [h12]; decide) (by rw [h12]; decide) (by rw [h12]; decide) (by decide) ?_
        exact lc_dreams (hst.2.2.2.2.2.2.2.2.2.2.2.2.1) hL hi6 X kn hI hPC hPR hS hl
      by_cases h13 : z = 13
      · refine lv_tableIn (off := 614) (tgt := 647) hx hb dL_law_33 (by rw [h13]; decide) (by rw [h13]; decide) (by rw [h13]; decide) (by decide) ?_
        exact lc_minute (hst.2.2.2.2.2.2.2.2.2.2.2.2.2.1) hL hi6 X kn hI hPC hPR hS hl
      by_cases h14 : z = 14
      · refine lv_tableIn (off := 627) (tgt := 660) hx hb dL_law_33 (by rw [h14]; decide) (by rw [h14]; decide) (by rw [h14]; decide) (by decide) ?_
        exact lc_feed (hst.2.2.2.2.2.2.2.2.2.2.2.2.2.2.1) hL hi6 X kn hI hPC hPR hS hl
      by_cases h15 : z = 15
      · refine lv_tableIn (off := 660) (tgt := 693) hx hb dL_law_33 (by rw [h15]; decide) (by rw [h15]; decide) (by rw [h15]; decide) (by decide) ?_
        exact lc_wake (hst.2.2.2.2.2.2.2.2.2.2.2.2.2.2.2.1) hL hi6 X kn hI hPC hPR hS hl
      by_cases h16 : z = 16
      · refine lv_tableIn (off := 683) (tgt := 716) hx hb dL_law_33 (by rw [h16]; decide) (by rw [h16]; decide) (by rw [h16]; decide) (by decide) ?_
        exact lc_lull (hst.2.2.2.2.2.2.2.2.2.2.2.2.2.2.2.2.1) hL hi6 X kn hI hPC hPR hS hl
      by_cases h17 : z = 17
      · refine lv_tableIn (off := 706) (tgt := 739) hx hb dL_law_33 (by rw [h17]; decide) (by rw [h17]; decide) (by rw [h17]; decide) (by decide) ?_
        exact lc_undo (hst.2.2.2.2.2.2.2.2.2.2.2.2.2.2.2.2.2.1) hL hi6 X kn hI hPC hPR hS hl
      by_cases h18 : z = 18
      · refine lv_tableIn (off := 729) (tgt := 762) hx hb dL_law_33 (by rw [h18]; decide) (by rw [h18]; decide) (by rw [h18]; decide) (by decide) ?_
        exact lc_keep (hst.2.2.2.2.2.2.2.2.2.2.2.2.2.2.2.2.2.2.1) hL hi6 X kn hI hPC hPR hS hl
      by_cases h19 : z = 19
      · refine lv_tableIn (off := 752) (tgt := 785) hx hb dL_law_33 (by rw [h19]; decide) (by rw [h19]; decide) (by rw [h19]; decide) (by decide) ?_
        exact lc_on (hst.2.2.2.2.2.2.2.2.2.2.2.2.2.2.2.2.2.2.2.1) hL hi6 X kn hI hPC hPR hS hl
      by_cases h20 : z = 20
      · refine lv_tableIn (off := 775) (tgt := 808) hx hb dL_law_33 (by rw [h20]; decide) (by rw [h20]; decide) (by rw [h20]; decide) (by decide) ?_
        exact lc_train (hst.2.2.2.2.2.2.2.2.2.2.2.2.2.2.2.2.2.2.2.2.1) hL hi6 X kn hI hPC hPR hS hl
      by_cases h21 : z = 21
      · refine lv_tableIn (off := 798) (tgt := 831) hx hb dL_law_33 (by rw [h21]; decide) (by rw [h21]; decide) (by rw [h21]; decide) (by decide) ?_
        exact lc_comes (hst.2.2.2.2.2.2.2.2.2.2.2.2.2.2.2.2.2.2.2.2.2.1) hL hi6 X kn hI hPC hPR hS hl
      by_cases h22 : z = 22
      · refine lv_tableIn (off := 811) (tgt := 844) hx hb dL_law_33 (by rw [h22]; decide) (by rw [h22]; decide) (by rw [h22]; decide) (by decide) ?_
        exact lc_stood (hst.2.2.2.2.2.2.2.2.2.2.2.2.2.2.2.2.2.2.2.2.2.2.1) hL hi6 X kn hI hPC hPR hS hl
      by_cases h23 : z = 23
      · refine lv_tableIn (off := 834) (tgt := 867) hx hb dL_law_33 (by rw [h23]; decide) (by rw [h23]; decide) (by rw [h23]; decide) (by decide) ?_
        exact lc_intime (hst.2.2.2.2.2.2.2.2.2.2.2.2.2.2.2.2.2.2.2.2.2.2.2.1) hL hi6 X kn hI hPC hPR hS hl
      by_cases h24 : z = 24
      · refine lv_tableIn (off := 847) (tgt := 880) hx hb dL_law_33 (by rw [h24]; decide) (by rw [h24]; decide) (by rw [h24]; decide) (by decide) ?_
        exact lc_feast (hst.2.2.2.2.2.2.2.2.2.2.2.2.2.2.2.2.2.2.2.2.2.2.2.2.1) hL hi6 X kn hI hPC hPR hS hl
      by_cases h25 : z = 25
      · refine lv_tableIn (off := 880) (tgt := 913) hx hb dL_law_33 (by rw [h25]; decide) (by rw [h25]; decide) (by rw [h25]; decide) (by decide) ?_
        exact lc_bed (hst.2.2.2.2.2.2.2.2.2.2.2.2.2.2.2.2.2.2.2.2.2.2.2.2.2.1) hL hi6 X kn hI hPC hPR hS hl
      by_cases h26 : z = 26
      · refine lv_tableIn (off := 903) (tgt := 936) hx hb dL_law_33 (by rw [h26]; decide) (by rw [h26]; decide) (by rw [h26]; decide) (by decide) ?_
        exact lc_account (hst.2.2.2.2.2.2.2.2.2.2.2.2.2.2.2.2.2.2.2.2.2.2.2.2.2.2.1) hL hi6 X kn hI hPC hPR hS hl
      by_cases h27 : z = 27
      · refine lv_tableIn (off := 926) (tgt := 959) hx hb dL_law_33 (by rw [h27]; decide) (by rw [h27]; decide) (by rw [h27]; decide) (by decide) ?_
        exact lc_kinds (hst.2.2.2.2.2.2.2.2.2.2.2.2.2.2.2.2.2.2.2.2.2.2.2.2.2.2.2.1) hL hi6 X kn hI hPC hPR hS hl
      by_cases h28 : z = 28
      · refine lv_tableIn (off := 959) (tgt := 992) hx hb dL_law_33 (by rw [h28]; decide) (by rw [h28]; decide) (by rw [h28]; decide) (by decide) ?_
        exact lc_look (hst.2.2.2.2.2.2.2.2.2.2.2.2.2.2.2.2.2.2.2.2.2.2.2.2.2.2.2.2.1) hL hi6 X kn hI hPC hPR hS hl
      by_cases h29 : z = 29
      · refine lv_tableIn (off := 982) (tgt := 1015) hx hb dL_law_33 (by rw [h29]; decide) (by rw [h29]; decide) (by rw [h29]; decide) (by decide) ?_
        exact lc_duel (hst.2.2.2.2.2.2.2.2.2.2.2.2.2.2.2.2.2.2.2.2.2.2.2.2.2.2.2.2.2.1) hL hi6 X kn hI hPC hPR hS hl
      by_cases h30 : z = 30
      · refine lv_tableIn (off := 1005) (tgt := 1038) hx hb dL_law_33 (by rw [h30]; decide) (by rw [h30]; decide) (by rw [h30]; decide) (by decide) ?_
        exact lc_odds (hst.2.2.2.2.2.2.2.2.2.2.2.2.2.2.2.2.2.2.2.2.2.2.2.2.2.2.2.2.2.2.1) hL hi6 X kn hI hPC hPR hS hl
      by_cases h31 : z = 31
      · refine lv_tableIn (off := 1048) (tgt := 1081) hx hb dL_law_33 (by rw [h31]; decide) (by rw [h31]; decide) (by rw [h31]; decide) (by decide) ?_
        exact lc_mid (hst.2.2.2.2.2.2.2.2.2.2.2.2.2.2.2.2.2.2.2.2.2.2.2.2.2.2.2.2.2.2.2.1) hL hi6 X kn hI hPC hPR hS hl
      by_cases h32 : z = 32
      · refine lv_tableIn (off := 1081) (tgt := 1114) hx hb dL_law_33 (by rw [h32]; decide) (by rw [h32]; decide) (by rw [h32]; decide) (by decide) ?_
        exact lc_lots (hst.2.2.2.2.2.2.2.2.2.2.2.2.2.2.2.2.2.2.2.2.2.2.2.2.2.2.2.2.2.2.2.2.1) hL hi6 X kn hI hPC hPR hS hl
      by_cases h33 : z = 33
      · refine lv_tableIn (off := 1114) (tgt := 1147) hx hb dL_law_33 (by rw [h33]; decide) (by rw [h33]; decide) (by rw [h33]; decide) (by decide) ?_
        exact lc_asked (hst.2.2.2.2.2.2.2.2.2.2.2.2.2.2.2.2.2.2.2.2.2.2.2.2.2.2.2.2.2.2.2.2.2.1) hL hi6 X kn hI hPC hPR hS hl
      by_cases h34 : z = 34
      · refine lv_tableIn (off := 1127) (tgt := 1160) hx hb dL_law_33 (by rw [h34]; decide) (by rw [h34]; decide) (by rw [h34]; decide) (by decide) ?_
        exact lc_upper (hst.2.2.2.2.2.2.2.2.2.2.2.2.2.2.2.2.2.2.2.2.2.2.2.2.2.2.2.2.2.2.2.2.2.2.1) hL hi6 X kn hI hPC hPR hS hl
      by_cases h35 : z = 35
      · refine lv_tableIn (off := 1141) (tgt := 1174) hx hb dL_law_33 (by rw [h35]; decide) (by rw [h35]; decide) (by rw [h35]; decide) (by decide) ?_
        exact lc_lower (hst.2.2.2.2.2.2.2.2.2.2.2.2.2.2.2.2.2.2.2.2.2.2.2.2.2.2.2.2.2.2.2.2.2.2.2.1) hL hi6 X kn hI hPC hPR hS hl
      by_cases h36 : z = 36
      · refine lv_tableIn (off := 1155) (tgt := 1188) hx hb dL_law_33 (by rw [h36]; decide) (by rw [h36]; decide) (by rw [h36]; decide) (by decide) ?_
        exact lc_count (hst.2.2.2.2.2.2.2.2.2.2.2.2.2.2.2.2.2.2.2.2.2.2.2.2.2.2.2.2.2.2.2.2.2.2.2.2.1) hL hi6 X kn hI hPC hPR hS hl
      by_cases h37 : z = 37
      · refine lv_tableIn (off := 1178) (tgt := 1211) hx hb dL_law_33 (by rw [h37]; decide) (by rw [h37]; decide) (by rw [h37]; decide) (by decide) ?_
        exact lc_finding (hst.2.2.2.2.2.2.2.2.2.2.2.2.2.2.2.2.2.2.2.2.2.2.2.2.2.2.2.2.2.2.2.2.2.2.2.2.2.1) hL hi6 X kn hI hPC hPR hS hl
      by_cases h38 : z = 38
      · refine lv_tableIn (off := 1191) (tgt := 1224) hx hb dL_law_33 (by rw [h38]; decide) (by rw [h38]; decide) (by rw [h38]; decide) (by decide) ?_
        exact lc_findings (hst.2.2.2.2.2.2.2.2.2.2.2.2.2.2.2.2.2.2.2.2.2.2.2.2.2.2.2.2.2.2.2.2.2.2.2.2.2.2.1) hL hi6 X kn hI hPC hPR hS hl
      by_cases h39 : z = 39
      · refine lv_tableIn (off := 1214) (tgt := 1247) hx hb dL_law_33 (by rw [h39]; decide) (by rw [h39]; decide) (by rw [h39]; decide) (by decide) ?_
        exact lc_digest (hst.2.2.2.2.2.2.2.2.2.2.2.2.2.2.2.2.2.2.2.2.2.2.2.2.2.2.2.2.2.2.2.2.2.2.2.2.2.2.2) hL hi6 X kn hI hPC hPR hS hl
      refine lv_tableOut (tgt := 1261) hx hb dL_law_33 (sw_out 0 39 (by decide) (by decide) (fun v h1 h2 => by rcases (show v = 0 ∨ v = 1 ∨ v = 2 ∨ v = 3 ∨ v = 4 ∨ v = 5 ∨ v = 6 ∨ v = 7 ∨ v = 8 ∨ v = 9 ∨ v = 10 ∨ v = 11 ∨ v = 12 ∨ v = 13 ∨ v = 14 ∨ v = 15 ∨ v = 16 ∨ v = 17 ∨ v = 18 ∨ v = 19 ∨ v = 20 ∨ v = 21 ∨ v = 22 ∨ v = 23 ∨ v = 24 ∨ v = 25 ∨ v = 26 ∨ v = 27 ∨ v = 28 ∨ v = 29 ∨ v = 30 ∨ v = 31 ∨ v = 32 ∨ v = 33 ∨ v = 34 ∨ v = 35 ∨ v = 36 ∨ v = 37 ∨ v = 38 ∨ v = 39 by omega) with rfl | rfl | rfl | rfl | rfl | rfl | rfl | rfl | rfl | rfl | rfl | rfl | rfl | rfl | rfl | rfl | rfl | rfl | rfl | rfl | rfl | rfl | rfl | rfl | rfl | rfl | rfl | rfl | rfl | rfl | rfl | rfl | rfl | rfl | rfl | rfl | rfl | rfl | rfl | rfl <;> assumption)) (by decide) ?_
      exact kn SC SR H locs ls hI hPC hPR hS hl
