theorem lin_RX4 : Cond.instantiable RX4 17 ∈ lwG := lwG_at 94 (by decide +kernel) (by decide +kernel)
theorem lin_RX5 : Cond.instantiable RX5 32 ∈ lwG := lwG_at 727 (by decide +kernel) (by decide +kernel)
theorem lcl_L_7 : Cond.classLink RL 7 RX4 ∈ lwG := lwG_at 93 (by decide +kernel) (by decide +kernel)
theorem lc_X4_init : Cond.code yX4_init cX4_init 2 none ∈ lwG := lwG_at 97 (by decide +kernel) (by decide +kernel)
theorem lm_L_9 : Cond.methodLink RL 9 yX4_init ∈ lwG := lwG_at 95 (by decide +kernel) (by decide +kernel)
theorem li_X4_init : Cond.instanceMethod yX4_init ∈ lwG := lwG_at 96 (by decide +kernel) (by decide +kernel)
theorem lcl_L_10 : Cond.classLink RL 10 RX5 ∈ lwG := lwG_at 726 (by decide +kernel) (by decide +kernel)
theorem lc_X5_init : Cond.code yX5_init cX5_init 2 none ∈ lwG := lwG_at 730 (by decide +kernel) (by decide +kernel)
theorem lm_L_12 : Cond.methodLink RL 12 yX5_init ∈ lwG := lwG_at 728 (by decide +kernel) (by decide +kernel)
theorem li_X5_init : Cond.instanceMethod yX5_init ∈ lwG := lwG_at 729 (by decide +kernel) (by decide +kernel)
theorem va_Pl {D : va_G} {cl : List vw_C} {a b : va_W} {H : Heap} (h : va_P D cl (a ++ b) H) : va_P D cl a H := fun i q hq => h i q (by rw [List.getElem?_append_left (List.getElem?_eq_some_iff.mp hq).1]; exact hq)
theorem va_Pr {D : va_G} {cl : List vw_C} {a b : va_W} {H : Heap} (h : va_P D cl (a ++ b) H) : va_P D cl b H := fun i q hq => h (a.length + i) q (by rw [List.getElem?_append_right (by omega), show a.length + i - a.length = i by omega]; exact hq)
theorem va_Dlr {A : Nat → Prop} {a b : va_W} (h : va_D A (a ++ b)) {i j : Nat} {x y : Nat × va_E} (hx : a[i]? = some x) (hy : b[j]? = some y) : x.1 ≠ y.1 := fun e => by
  have hl := (List.getElem?_eq_some_iff.mp hx).1
  have := h.1 i (a.length + j) x y (by rw [List.getElem?_append_left hl]; exact hx) (by rw [List.getElem?_append_right (by omega), show a.length + j - a.length = j by omega]; exact hy) e
  omega
theorem key_at {w : va_W} {ks : List Nat} {h : Nat → Nat} (hm : w.map Prod.fst = ks.map h) {k : Nat} (hk : k ∈ ks) : ∃ (i : Nat) (x : Nat × va_E), w[i]? = some x ∧ x.1 = h k := by
  obtain ⟨i, hi⟩ := List.getElem?_of_mem hk
  have h1 : (w.map Prod.fst)[i]? = some (h k) := by rw [hm, List.getElem?_map, hi]; rfl
  rw [List.getElem?_map] at h1
  obtain ⟨x, hx, ex⟩ := Option.map_eq_some_iff.mp h1
  exact ⟨i, x, hx, ex⟩
theorem cl_J {p : Program} {l : Launch} {e : Env} {R : Room} {s : State} {m : MethodId} {args : Array Value} {below : List Frame} {meth : Method} {c : Code} {H : Heap} {locs : List Loc} {Z : State → Prop} {cc bytes : ByteArray} {nL maxL index n pc cells slots mc ms : Nat} {own : String} {y : MethodName} {rm : Room} {D : va_G} {cA : Nat → ClassId} {A : Nat → Prop} {ws : va_W} {q : Nat} {e0 : va_E} {As rest st : List Value} {ls : Array Slot} {S : Type} {B : S → Heap → Prop} (w1 : S → va_W) (C : CallFix p m c cc nL s args lwG own) (hK : kM D cA s) (hP : va_P D vwCl (ws ++ [(q, e0)]) H) (hD : va_D A (ws ++ [(q, e0)])) (hS : va_S A s.heap H locs) (hA : ∀ q, s.heap.size ≤ q → A q)
    (hM : Met l y (wsU y bytes maxL none) rm (va_Pc (.ref q :: As) (pM D cA [(q, e0)] H.size)) (va_Qv (fun _ : S => True) (fun u t => B u t.heap) (va_A [(q, e0)] H.size)) mc ms (va_A [(q, e0)] H.size)) (hB : ∀ u H1, B u H1 → va_P D vwCl (w1 u) H1 ∧ va_D (va_A [(q, e0)] H.size) (w1 u)) (hG : GoodIn lwG (wsU y bytes maxL none)) (hl : Cond.methodLink own index y ∈ lwG) (hi1 : Cond.initialized y.cls ∈ lwG) (hi2 : Cond.instanceMethod y ∈ lwG) (hi3 : y.name = "<init>") (hd : y.cls ≠ "java/lang/invoke/MethodHandle" ∧ y.cls ≠ "java/lang/invoke/VarHandle" ∧ (parseMethodDescriptor y.desc).map (fun d => d.parameters.length) = some n) (hn : As.length = n) (hst : st = As.reverse ++ .ref q :: rest) (hrs : (rest.map fun v => v.category).sum ≤ 8) (hrm : rm.cells = mc ∧ rm.slots = ms) (hR : rm.frames + 1 ≤ R.frames ∧ 8 + (maxL + 11) + rm.locals ≤ R.locals) (hdg : decode cc pc = .ok (.invokespecial index, 3)) (hls : ls.size = nL) (hcs : cells + mc ≤ R.cells ∧ slots + ms ≤ R.slots)
    (kk : ∀ (u : S) (H1 : Heap) (locs1 : List Loc), B u H1 → va_P D vwCl (ws ++ w1 u) H1 → va_D A (ws ++ w1 u) → va_S A s.heap H1 locs1 → W p l e R s m args below meth c H1 locs1 (cells + mc) (slots + ms) Z (F0 m (pc + 3) ls rest)) : W p l e R s m args below meth c H locs cells slots Z (F0 m pc ls st) := by
  subst hst
  have hx : (ws ++ [(q, e0)])[ws.length]? = some (q, e0) := by simp
  have hF : ∀ x, va_A [(q, e0)] H.size x → A x := by
    rintro x (⟨k, e, h⟩ | h)
    · have hk0 : k < 1 := (List.getElem?_eq_some_iff.mp h).1
      have hk1 : k = 0 := by omega
      subst hk1
      cases h
      exact hD.2 ws.length (q, e0) hx
    · exact hA x (Nat.le_trans hS.1 h)
  have hPc : va_P D vwCl [(q, e0)] H := by
    intro k x h
    have hk0 : k < 1 := (List.getElem?_eq_some_iff.mp h).1
    have hk1 : k = 0 := by omega
    subst hk1
    cases h
    exact hP ws.length (q, e0) hx
  have hDc : va_D (fun _ => True) [(q, e0)] := ⟨fun i j a b ha hb _ => by
    have h1 : i < 1 := (List.getElem?_eq_some_iff.mp ha).1
    have h2 : j < 1 := (List.getElem?_eq_some_iff.mp hb).1
    omega, fun _ _ _ => trivial⟩
  exact va_callv (va_runI (As := As) (rest := rest) C hM (cwI n C.2.2.2.2 hG rfl hrm.1 hrm.2 (C.2.2.2.2 _ hi1) (C.2.2.2.2 _ hl) (C.2.2.2.2 _ hi2) hi3 hd hR) ⟨pM.blind, fun U hU hW => ⟨rfl, by rw [hU], by rw [hU]; exact hPc, hK.warm hW, hDc⟩⟩ rfl hn hls rfl (lv_room hrs) hdg hcs) hS (fun q _ h => hF q h) hF (fun u t H1 locs1 ht hvm hw hB1 hz1 hk1 hS1 => by
    have hB2 : B u t.heap := hB1
    rw [ht] at hB2
    obtain ⟨hP1, hD1⟩ := hB u H1 hB2
    obtain ⟨hP2, hD2⟩ := join_last hP hD hk1 hF hP1 hD1
    exact kk u H1 locs1 hB2 hP2 hD2 hS1)
theorem tbl_at {w : Cond} (i : Nat) (h : lw_tbl[i]? = some w) : w ∈ lw_tbl := List.mem_of_getElem? h
theorem nestF_in : ∀ q ∈ nestF, Cond.fieldLinkNest q.1 q.2.1 q.2.2.1 q.2.2.2.1 q.2.2.2.2.1 q.2.2.2.2.2 ∈ lw_tbl := by
  unfold nestF
  simp only [List.forall_mem_cons]
  exact ⟨tbl_at 113 (by decide +kernel), tbl_at 115 (by decide +kernel), tbl_at 129 (by decide +kernel), tbl_at 130 (by decide +kernel), tbl_at 132 (by decide +kernel), tbl_at 133 (by decide +kernel), tbl_at 135 (by decide +kernel), tbl_at 136 (by decide +kernel), tbl_at 141 (by decide +kernel), tbl_at 142 (by decide +kernel), tbl_at 143 (by decide +kernel), tbl_at 145 (by decide +kernel), tbl_at 146 (by decide +kernel), tbl_at 147 (by decide +kernel), tbl_at 149 (by decide +kernel), tbl_at 151 (by decide +kernel), tbl_at 153 (by decide +kernel), tbl_at 154 (by decide +kernel), tbl_at 155 (by decide +kernel), tbl_at 157 (by decide +kernel), tbl_at 159 (by decide +kernel), tbl_at 215 (by decide +kernel), tbl_at 217 (by decide +kernel), tbl_at 220 (by decide +kernel), tbl_at 401 (by decide +kernel), fun _ h => absurd h List.not_mem_nil⟩
theorem nestM_in : ∀ q ∈ nestM, Cond.methodLinkNest q.1 q.2.1 q.2.2.1 q.2.2.2 ∈ lw_tbl := by
  unfold nestM
  simp only [List.forall_mem_cons]
  exact ⟨tbl_at 103 (by decide +kernel), tbl_at 124 (by decide +kernel), tbl_at 190 (by decide +kernel), tbl_at 210 (by decide +kernel), tbl_at 299 (by decide +kernel), tbl_at 303 (by decide +kernel), tbl_at 310 (by decide +kernel), tbl_at 326 (by decide +kernel), tbl_at 366 (by decide +kernel), tbl_at 389 (by decide +kernel), tbl_at 390 (by decide +kernel), tbl_at 403 (by decide +kernel), tbl_at 411 (by decide +kernel), tbl_at 424 (by decide +kernel), tbl_at 431 (by decide +kernel), tbl_at 436 (by decide +kernel), tbl_at 460 (by decide +kernel), tbl_at 464 (by decide +kernel), tbl_at 482 (by decide +kernel), tbl_at 490 (by decide +kernel), tbl_at 502 (by decide +kernel), tbl_at 518 (by decide +kernel), tbl_at 522 (by decide +kernel), tbl_at 525 (by decide +kernel), tbl_at 544 (by decide +kernel), tbl_at 548 (by decide +kernel), tbl_at 556 (by decide +kernel), tbl_at 688 (by decide +kernel), tbl_at 692 (by decide +kernel), tbl_at 693 (by decide +kernel), tbl_at 698 (by decide +kernel), tbl_at 703 (by decide +kernel), tbl_at 721 (by decide +kernel), fun _ h => absurd h List.not_mem_nil⟩
set_option maxHeartbeats 8000000 in
set_option maxRecDepth 100000 in
theorem whole_of {Inv : sT → sT → Prop} (hst : stp Inv) (h0 : wp_X5_init S0R (fun SR => Inv S0C SR)) {p : Program} {e : Env} {s : State} {m : MethodId} {below : List Frame} {meth : Method} {c : Code} (l : Launch) {b L : Nat} {xs : Nat → Int32} (hL : L ≤ 384) (C0 : lw_At p s m meth c b L xs) : W p l e room_1 s m #[Value.ref b] below meth c s.heap [] 0 0 (lw_Z below #[Value.ref b] s) (entryFrame m ([Value.ref b] : List Value).toArray 4) := by
  obtain ⟨hx, hb, hr, hml, hown, htb, hX, hbl, hlocks, hgv⟩ := id C0
  have hts : ∀ w ∈ lwG, w.before #[Value.ref b] s = true := fun w hw => htb w (List.mem_filter.mp hw).1
  obtain ⟨c0, iS0, hKn0⟩ := u_known (C := RX0) (T := TX0) (N := 7) (n := 7) hts ginX0 (hts _ lin_RX0)
  obtain ⟨c1, iS1, hKn1⟩ := u_known (C := RX1) (T := TX1) (N := 13) (n := 13) hts ginX1 (hts _ lin_RX1)
  obtain ⟨c2, iS2, hKn2⟩ := u_known (C := RX2) (T := TX2) (N := 4) (n := 4) hts ginX2 (hts _ lin_RX2)
  obtain ⟨c3, iS3, hKn3⟩ := u_known (C := RX3) (T := TX3) (N := 2) (n := 2) hts ginX3 (hts _ lin_RX3)
  obtain ⟨c4, iS4, hKn4⟩ := u_known (C := RX4) (T := TX4) (N := 17) (n := 17) hts ginX4 (hts _ lin_RX4)
  obtain ⟨c5, iS5, hKn5⟩ := u_known (C := RX5) (T := TX5) (N := 32) (n := 32) hts ginX5 (hts _ lin_RX5)
  obtain ⟨dC, dI, hKc⟩ : ∃ (dC : Nat → ClassId) (dI : Nat → Nat → Nat), ∀ (k : Nat) (q : vw_C), vwCl[k]? = some q → u_Kn s q.1 q.2.1 q.2.2 (dC k) (dI k) := by
    refine ⟨fun k => if k = 0 then c0 else if k = 1 then c1 else if k = 2 then c2 else if k = 3 then c3 else if k = 4 then c4 else c5, fun k => if k = 0 then iS0 else if k = 1 then iS1 else if k = 2 then iS2 else if k = 3 then iS3 else if k = 4 then iS4 else iS5, ?_⟩
    intro k q hq
    match k, hq with
    | 0, hq => cases hq; exact hKn0
    | 1, hq => cases hq; exact hKn1
    | 2, hq => cases hq; exact hKn2
    | 3, hq => cases hq; exact hKn3
    | 4, hq => cases hq; exact hKn4
    | 5, hq => cases hq; exact hKn5
    | k + 6, hq => simp [vwCl] at hq
  obtain ⟨a0, ka0, ca0, fa0, ha0, da0⟩ := Cond.arrayClass_spec (htb (.arrayClass .int) (tbl_at 121 (by decide +kernel)))
  obtain ⟨a1, ka1, ca1, fa1, ha1, da1⟩ := Cond.arrayClass_spec (htb (.arrayClass .long) (tbl_at 239 (by decide +kernel)))
  obtain ⟨a2, ka2, ca2, fa2, ha2, da2⟩ := Cond.arrayClass_spec (htb (.arrayClass .boolean) (tbl_at 207 (by decide +kernel)))
  have hAO : va_AO RX1 s := va_AO.of (htb (.arrayOver (.object RX1)) (tbl_at 187 (by decide +kernel)))
  have hOI : va_Nw (.arrayOver (.array .int)) s := htb (.arrayOver (.array .int)) (tbl_at 108 (by decide +kernel))
  have hOJ : va_Nw (.arrayOver (.array .long)) s := htb (.arrayOver (.array .long)) (tbl_at 241 (by decide +kernel))
  obtain ⟨o3, a3, ka3, fo3, -, ha3, da3, fa3⟩ := Cond.arrayOver_spec hAO
  obtain ⟨o4, a4, ka4, fo4, ha4, da4, fa4⟩ := gd_over (args := #[]) hOI
  obtain ⟨o5, a5, ka5, fo5, ha5, da5, fa5⟩ := gd_over (args := #[]) hOJ
  obtain ⟨cA, hcA⟩ : ∃ cA : Nat → ClassId, cA 0 = a0 ∧ cA 1 = a1 ∧ cA 2 = a2 ∧ cA 3 = a3 ∧ cA 4 = a4 ∧ cA 5 = a5 := ⟨fun k => [a0, a1, a2, a3, a4, a5].getD k 0, rfl, rfl, rfl, rfl, rfl, rfl⟩
  obtain ⟨e0, e1, e2, e3, e4, e5⟩ := hcA
  have hKv : va_K (dC, dI) vwCl (tysA cA) s := by
    refine ⟨hKc, fun k q hq => ?_⟩
    unfold tysA at hq
    rw [e0, e1, e2, e3, e4, e5] at hq
    match k, hq with
    | 0, hq => cases hq; exact ⟨fun n z => ⟨fun k h => (by cases h), ka0, ha0, ca0, da0⟩, fa0⟩
    | 1, hq => cases hq; exact ⟨fun n z => ⟨fun k h => (by cases h), ka1, ha1, ca1, da1⟩, fa1⟩
    | 2, hq => cases hq; exact ⟨fun n z => ⟨fun k h => (by cases h), ka2, ha2, ca2, da2⟩, fa2⟩
    | 3, hq => cases hq; exact ⟨fun n z => ⟨fun k h => (by cases h), ka3, ha3, o3, da3⟩, ka3, o3, ha3, da3, fo3, fa3⟩
    | 4, hq => cases hq; exact ⟨fun n z => ⟨fun k h => (by cases h), ka4, ha4, o4, da4⟩, fa4⟩
    | 5, hq => cases hq; exact ⟨fun n z => ⟨fun k h => (by cases h), ka5, ha5, o5, da5⟩, fa5⟩
    | k + 6, hq => simp at hq
  have hKA : kA (dC, dI) cA s := ⟨hKv, fun q hq => va_Nw.of rfl (htb _ (nestF_in q hq)), fun q hq => va_Nw.of rfl (htb _ (nestM_in q hq))⟩
  have hK : kM (dC, dI) cA s := ⟨hKA, hAO, hOI, hOJ⟩
  have hfl := flat_of_before _ hgv
  have hA9 : ∀ a : Nat, a < s.heap.size → ¬ (fun q : Nat => s.heap.size ≤ q) a := fun a h h2 => absurd h2 (Nat.not_le.mpr h)
  obtain ⟨t1, ht1, hT1⟩ := va_Tof (tm := (.static "DreamTrain" "KIND_LETTERS" "[I")) (ty := .int) (N := 6) (f := fun j => .int (kL j)) (A := fun q : Nat => s.heap.size ≤ q) (by decide) (hfl (.arrayOf (.static "DreamTrain" "KIND_LETTERS" "[I") .int) (by decide +kernel)) (va_eqt (hfl (.eq (.length (.static "DreamTrain" "KIND_LETTERS" "[I")) (.int 6)) (by decide +kernel))) (fun j hj => by
    rcases (show j = 0 ∨ j = 1 ∨ j = 2 ∨ j = 3 ∨ j = 4 ∨ j = 5 by omega) with rfl | rfl | rfl | rfl | rfl | rfl
    · exact va_eqt (hfl (.eq (.elem (.static "DreamTrain" "KIND_LETTERS" "[I") (.int 0)) (.int 115)) (by decide +kernel))
    · exact va_eqt (hfl (.eq (.elem (.static "DreamTrain" "KIND_LETTERS" "[I") (.int 1)) (.int 99)) (by decide +kernel))
    · exact va_eqt (hfl (.eq (.elem (.static "DreamTrain" "KIND_LETTERS" "[I") (.int 2)) (.int 98)) (by decide +kernel))
    · exact va_eqt (hfl (.eq (.elem (.static "DreamTrain" "KIND_LETTERS" "[I") (.int 3)) (.int 105)) (by decide +kernel))
    · exact va_eqt (hfl (.eq (.elem (.static "DreamTrain" "KIND_LETTERS" "[I") (.int 4)) (.int 103)) (by decide +kernel))
    · exact va_eqt (hfl (.eq (.elem (.static "DreamTrain" "KIND_LETTERS" "[I") (.int 5)) (.int 108)) (by decide +kernel))) hA9
  have hZ1 := va_Zref (C := "DreamTrain") (n := "KIND_LETTERS") (d := "[I") (A := fun q : Nat => s.heap.size ≤ q) (htb (.laysStatic "DreamTrain" "KIND_LETTERS" "[I") (tbl_at 402 (by decide +kernel))) (hts _ lz_RX4) ht1 hA9
  obtain ⟨t2, ht2, hT2⟩ := va_Tof (tm := (.static "DreamTrain" "KIND_ABOVE" "[I")) (ty := .int) (N := 6) (f := fun j => .int (kU j)) (A := fun q : Nat => s.heap.size ≤ q) (by decide) (hfl (.arrayOf (.static "DreamTrain" "KIND_ABOVE" "[I") .int) (by decide +kernel)) (va_eqt (hfl (.eq (.length (.static "DreamTrain" "KIND_ABOVE" "[I")) (.int 6)) (by decide +kernel))) (fun j hj => by
    rcases (show j = 0 ∨ j = 1 ∨ j = 2 ∨ j = 3 ∨ j = 4 ∨ j = 5 by omega) with rfl | rfl | rfl | rfl | rfl | rfl
    · exact va_eqt (hfl (.eq (.elem (.static "DreamTrain" "KIND_ABOVE" "[I") (.int 0)) (.int 0)) (by decide +kernel))
    · exact va_eqt (hfl (.eq (.elem (.static "DreamTrain" "KIND_ABOVE" "[I") (.int 1)) (.int 0)) (by decide +kernel))
    · exact va_eqt (hfl (.eq (.elem (.static "DreamTrain" "KIND_ABOVE" "[I") (.int 2)) (.int 0)) (by decide +kernel))
    · exact va_eqt (hfl (.eq (.elem (.static "DreamTrain" "KIND_ABOVE" "[I") (.int 3)) (.int 0)) (by decide +kernel))
    · exact va_eqt (hfl (.eq (.elem (.static "DreamTrain" "KIND_ABOVE" "[I") (.int 4)) (.int 1)) (by decide +kernel))
    · exact va_eqt (hfl (.eq (.elem (.static "DreamTrain" "KIND_ABOVE" "[I") (.int 5)) (.int 2)) (by decide +kernel))) hA9
  have hZ2 := va_Zref (C := "DreamTrain") (n := "KIND_ABOVE") (d := "[I") (A := fun q : Nat => s.heap.size ≤ q) (htb (.laysStatic "DreamTrain" "KIND_ABOVE" "[I") (tbl_at 444 (by decide +kernel))) (hts _ lz_RX4) ht2 hA9
  have hA : ∀ q : Nat, s.heap.size ≤ q → (fun q : Nat => s.heap.size ≤ q) q := fun _ h => h
  have CF : CallFix p m c code 4 s #[Value.ref b] lwG RL := ⟨hx, hb, hml, hown, hts⟩
  have hS : va_S (fun q : Nat => s.heap.size ≤ q) s.heap s.heap [] := va_S.rf
  have hP : va_P (dC, dI) vwCl [] s.heap := fun k q h => by simp at h
  have hD : va_D (fun q : Nat => s.heap.size ≤ q) [] := ⟨fun i j p q h => by simp at h, fun k q h => by simp at h⟩
  have hl := lv_entry ([.ref b]) (n := 4) (Nat.le_of_ble_eq_true rfl)
  rw [lg_entry_eq]
  generalize (lg_sl ([.ref b]) ++ List.replicate (4 - (lg_sl ([.ref b])).length) Slot.unset).toArray = ls at hl ⊢
  have hl : lv_has ls 4 [(0, .ref b)] := hl
  refine va_new (ci := 4) (fs := [.null, .null, .null, .null, .null, .null, .null, .null, .null, .null, .null, .null, .null, .int 0, .long 0, .long 0, .int 0]) (C := RX4) (T := TX4) (N := 17) hx hb hts ginX4 tyX4 tyX4_ok hown (hts _ lcl_L_7) (hts _ lin_RX4) (hts _ lz_RX4) hKv hP hD hS hA rfl (fun j hj => by rcases (show j = 0 ∨ j = 1 ∨ j = 2 ∨ j = 3 ∨ j = 4 ∨ j = 5 ∨ j = 6 ∨ j = 7 ∨ j = 8 ∨ j = 9 ∨ j = 10 ∨ j = 11 ∨ j = 12 ∨ j = 13 ∨ j = 14 ∨ j = 15 ∨ j = 16 by omega) with rfl | rfl | rfl | rfl | rfl | rfl | rfl | rfl | rfl | rfl | rfl | rfl | rfl | rfl | rfl | rfl | rfl <;> rfl) (by decide) (by decide) dL_law_0 (fun q0 H hP hD hS => ?_)
  refine lv_dup hx hb dL_law_3 rfl ?_
  refine cl_J (n := 0) (ws := []) (rest := [.ref q0]) (S := List Nat) (B := fun u H9 => va_P (dC, dI) vwCl (wC (hC u) cA S0C) H9 ∧ va_D (va_A [(q0, .inr (4, [.null, .null, .null, .null, .null, .null, .null, .null, .null, .null, .null, .null, .null, .int 0, .long 0, .long 0, .int 0]))] H.size) (wC (hC u) cA S0C) ∧ hC u 1000 = q0) (fun u => wC (hC u) cA S0C) CF hK hP hD hS hA (c_X4_init l (dC, dI) cA q0 H.size) (fun u H1 h => ⟨h.1, h.2.1⟩) (lwG_C lc_X4_init) lm_L_9 lz_RX4 li_X4_init rfl (by decide +kernel) rfl rfl (Nat.le_of_ble_eq_true rfl) ⟨rfl, rfl⟩ ⟨by decide, by decide⟩ dL_law_4 hl.1 ⟨by decide, by decide⟩ (fun a1 H locs hB1 hP hD hS => ?_)
  refine lv_astore_n (lv' := [(1, .ref q0), (0, .ref b)]) hx hb dL_law_7 rfl hl (by decide) rfl (fun ls hl => ?_)
  have hP : va_P (dC, dI) vwCl (wC (hC a1) cA S0C) H := hP
  have hD : va_D (fun q : Nat => s.heap.size ≤ q) (wC (hC a1) cA S0C) := hD
  refine va_new (ci := 5) (fs := [.null, .null, .null, .null, .int 0, .long 0, .long 0, .int 0, .null, .int 0, .int 0, .int 0, .null, .null, .null, .null, .null, .int 0, .null, .int 0, .int 0, .int 0, .int 0, .int 0, .int 0, .int 0, .null, .null, .null, .null, .null, .null]) (C := RX5) (T := TX5) (N := 32) (ws := wC (hC a1) cA S0C) hx hb hts ginX5 tyX5 tyX5_ok hown (hts _ lcl_L_10) (hts _ lin_RX5) (hts _ lz_RX5) hKv hP hD hS hA rfl (fun j hj => by rcases (show j = 0 ∨ j = 1 ∨ j = 2 ∨ j = 3 ∨ j = 4 ∨ j = 5 ∨ j = 6 ∨ j = 7 ∨ j = 8 ∨ j = 9 ∨ j = 10 ∨ j = 11 ∨ j = 12 ∨ j = 13 ∨ j = 14 ∨ j = 15 ∨ j = 16 ∨ j = 17 ∨ j = 18 ∨ j = 19 ∨ j = 20 ∨ j = 21 ∨ j = 22 ∨ j = 23 ∨ j = 24 ∨ j = 25 ∨ j = 26 ∨ j = 27 ∨ j = 28 ∨ j = 29 ∨ j = 30 ∨ j = 31 by omega) with rfl | rfl | rfl | rfl | rfl | rfl | rfl | rfl | rfl | rfl | rfl | rfl | rfl | rfl | rfl | rfl | rfl | rfl | rfl | rfl | rfl | rfl | rfl | rfl | rfl | rfl | rfl | rfl | rfl | rfl | rfl | rfl <;> rfl) (by decide) (by decide) dL_law_8 (fun q1 H hP hD hS => ?_)
  refine lv_dup hx hb dL_law_11 rfl ?_
  refine cl_J (n := 0) (ws := wC (hC a1) cA S0C) (rest := [.ref q1]) (S := List Nat × sT) (B := fun u H9 => Inv S0C u.2 ∧ va_P (dC, dI) vwCl (wR (hR u.1) cA u.2) H9 ∧ va_D (va_A [(q1, .inr (5, [.null, .null, .null, .null, .int 0, .long 0, .long 0, .int 0, .null, .int 0, .int 0, .int 0, .null, .null, .null, .null, .null, .int 0, .null, .int 0, .int 0, .int 0, .int 0, .int 0, .int 0, .int 0, .null, .null, .null, .null, .null, .null]))] H.size) (wR (hR u.1) cA u.2) ∧ hR u.1 100 = q1) (fun u => wR (hR u.1) cA u.2) CF hK hP hD hS hA (c_X5_init l (dC, dI) cA q1 H.size _ h0) (fun u H1 h => ⟨h.2.1, h.2.2.1⟩) (lwG_C lc_X5_init) lm_L_12 lz_RX5 li_X5_init rfl (by decide +kernel) rfl rfl (Nat.le_of_ble_eq_true rfl) ⟨rfl, rfl⟩ ⟨by decide, by decide⟩ dL_law_12 hl.1 ⟨by decide, by decide⟩ (fun a2 H locs hB2 hP hD hS => ?_)
  refine lv_astore_n (lv' := [(2, .ref q1), (1, .ref q0), (0, .ref b)]) hx hb dL_law_15 rfl hl (by decide) rfl (fun ls hl => ?_)
  refine lv_iconst (v := 0) hx hb dL_law_16 (by decide) ?_
  refine lv_istore_n (lv' := [(3, .int (nI 0)), (2, .ref q1), (1, .ref q0), (0, .ref b)]) hx hb dL_law_17 rfl hl (by decide) rfl (fun ls hl => ?_)
  refine W.widen (k := 600000) (n := 7302250) (by decide) (by decide) ?_
  have hk1 : ∀ k ∈ keysC, s.heap.size ≤ hC a1 k := fun k hk => by
    obtain ⟨i, x, hx9, ex⟩ := key_at (wC_fst (hC a1) cA S0C) hk
    rw [← ex]
    exact hD.2 i x (by rw [List.getElem?_append_left (List.getElem?_eq_some_iff.mp hx9).1]; exact hx9)
  have hk2 : ∀ k ∈ keysRA, s.heap.size ≤ hR a2.1 k := fun k hk => by
    obtain ⟨i, x, hx9, ex⟩ := key_at (wR_fst (hR a2.1) cA a2.2) hk
    rw [← ex]
    exact hD.2 ((wC (hC a1) cA S0C).length + i) x (by rw [List.getElem?_append_right (by omega), show (wC (hC a1) cA S0C).length + i - (wC (hC a1) cA S0C).length = i by omega]; exact hx9)
  have hdis : ∀ k ∈ keysC, ∀ k2 ∈ keysRA, hC a1 k ≠ hR a2.1 k2 := fun k hk k2 hk2 e => by
    obtain ⟨i, x, hx9, ex⟩ := key_at (wC_fst (hC a1) cA S0C) hk
    obtain ⟨j, y, hy9, ey⟩ := key_at (wR_fst (hR a2.1) cA a2.2) hk2
    exact va_Dlr hD hx9 hy9 (by rw [ex, ey, e])
  have hky1 : ky keysC (hC a1) := ky_of keysC_nod (wC_fst (hC a1) cA S0C) hB1.2.1
  have hky2 : ky keysRA (hR a2.1) := ky_of keysRA_nod (wR_fst (hR a2.1) cA a2.2) hB2.2.2.1
  have hzz : ∀ (H : Heap) (locs : List Loc) (U : State), va_S (fun q => s.heap.size ≤ q) s.heap H locs → s.vm.Alike U.vm → zz true keysC (hC a1) U H := fun H locs U hS hvm _ => by
    have hnr : ∀ q, aK keysC (hC a1) H.size q → s.heap.size ≤ q := by
      rintro q (⟨k, hk, rfl⟩ | h9)
      · exact hk1 k hk
      · exact Nat.le_trans hS.1 h9
    exact ⟨t1, t2, ⟨((hZ1.kept hS.2.1).narrow hnr).moved hvm, ((hT1.kept hS.2.1).narrow hnr).moved hvm⟩, ((hZ2.kept hS.2.1).narrow hnr).moved hvm, ((hT2.kept hS.2.1).narrow hnr).moved hvm⟩
  have e10 : hC a1 1000 = q0 := hB1.2.2
  have e20 : hR a2.1 100 = q1 := hB2.2.2.2
  have hPC := va_Pl hP
  have hPR := va_Pr hP
  exact law_loop hst hL ⟨CF, hr, hX, hbl, hlocks, hKA, hzz, hk1, hk2, hky1, hky2, hdis⟩ (L + 1) 0 S0C a2.2 H _ ls (Nat.zero_le _) (by omega) hB2.1 hPC hPR hS (by rw [e10, e20]; exact hl)
