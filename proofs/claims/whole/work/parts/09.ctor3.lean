abbrev keysF : List Nat := [0]
def wF (nn : Nat) (h : Nat → Nat) (cA : Nat → ClassId) (S : sT) : va_W := [(h 0, .inl (cA 0, nn, .inl (vA S 0)))]
theorem wF_fst (nn : Nat) (h : Nat → Nat) (cA : Nat → ClassId) (S : sT) : (wF nn h cA S).map Prod.fst = keysF.map h := rfl
section FF
variable {p : Program} {l : Launch} {e : Env} {R : Room} {s : State} {m : MethodId} {args : Array Value} {below : List Frame} {meth : Method} {c : Code} {H : Heap} {locs : List Loc} {Z : State → Prop}
variable {cc : ByteArray} {nL pc nn : Nat} {own : String} {D : va_G} {cA : Nat → ClassId} {h : Nat → Nat} {S : sT} {ls : Array Slot} {rest : List Value} {k : Nat} {i : Int32} {cells slots : Nat}
theorem stF (hk : k ∈ keysF) (C0 : cx p s m args c cc nL own D cA false keysF h) (hP : va_P D vwCl (wF nn h cA S) H) (hS : va_S (aK keysF h s.heap.size) s.heap H locs) {x : Int32} (hin : vp_in i nn) (hdg : decode cc pc = .ok (.iastore, 1)) (kk : ∀ (H1 : Heap) (locs1 : List Loc), va_P D vwCl (wF nn h cA (uA S k (upd (vA S k) i.toNatClampNeg x))) H1 → va_S (aK keysF h s.heap.size) s.heap H1 locs1 → W p l e R s m args below meth c H1 locs1 cells slots Z (F0 m (pc + 1) ls rest)) : W p l e R s m args below meth c H locs cells slots Z (F0 m pc ls (.int x :: .int i :: .ref (h k) :: rest)) := by
  obtain rfl : k = 0 := List.mem_singleton.mp hk
  exact va_iast C0.1.1 C0.1.2.1 C0.2.1.1 hP (wD (wF_fst nn h cA S) C0.2.2.1 _) hS 0 0 rfl rfl hin hdg (fun H1 l1 hP1 _ hS1 => kk H1 l1 hP1 hS1)
theorem alF (hk : k ∈ keysF) (C0 : cx p s m args c cc nL own D cA false keysF h) (hP : va_P D vwCl (wF nn h cA S) H) (hdg : decode cc pc = .ok (.arraylength, 1)) (kk : W p l e R s m args below meth c H locs cells slots Z (F0 m (pc + 1) ls (.int (nI (nn)) :: rest))) : W p l e R s m args below meth c H locs cells slots Z (F0 m pc ls (.ref (h k) :: rest)) := by
  obtain rfl : k = 0 := List.mem_singleton.mp hk
  exact va_alen C0.1.1 C0.1.2.1 C0.2.1.1 hP 0 0 rfl rfl rfl hdg kk
end FF
def wb_fillF_5 (nn k0 : Nat) (Q : sT → Prop) (K5 : Int32 → Int32 → Int32 → sT → Prop) (x1 : Int32) (x2 : Int32) (x3 : Int32) (S : sT) : Prop :=
  ((x3 ≤ x2 → Q S) ∧ (¬ x3 ≤ x2 → (vp_in x2 (nn)) ∧ K5 x1 (x2 + (1 : Int32)) x3 (uA S k0 (upd (vA S k0) x2.toNatClampNeg x1))))
set_option maxHeartbeats 4000000 in
set_option maxRecDepth 100000 in
theorem bk_fillF_5 {p : Program} {l : Launch} {e : Env} {s : State} {m : MethodId} {args : Array Value} {below : List Frame} {meth : Method} {c : Code} {Z : State → Prop} {D : va_G} {cA : Nat → ClassId} {h : Nat → Nat} {Q : sT → Prop} {nn k0 : Nat} (C0 : cx p s m args c cJ7_fill_53178 4 RJ7 D cA false keysF h) (hret : rtV p l e rm_J7_fill_53178 s m args below meth c cJ7_fill_53178 Z D (wF nn h cA) (aK keysF h s.heap.size) Q) (hk0 : k0 ∈ keysF) {K5 : Int32 → Int32 → Int32 → sT → Prop} (k5 : ∀ (x1 : Int32) (x2 : Int32) (x3 : Int32) (S : sT) (H : Heap) (locs : List Loc) (ls : Array Slot), K5 x1 x2 x3 S → va_P D vwCl (wF nn h cA S) H → va_S (aK keysF h s.heap.size) s.heap H locs → lv_has ls 4 [(0, .ref (h k0)), (1, .int x1), (2, .int x2), (3, .int x3)] → W p l e rm_J7_fill_53178 s m args below meth c H locs 0 0 Z (F0 m 5 ls [])) {x1 : Int32} {x2 : Int32} {x3 : Int32} {S : sT} {H : Heap} {locs : List Loc} {ls : Array Slot} (hP : va_P D vwCl (wF nn h cA S) H) (hS : va_S (aK keysF h s.heap.size) s.heap H locs) (hd : wb_fillF_5 nn k0 Q K5 x1 x2 x3 S) (hl : lv_has ls 4 [(0, .ref (h k0)), (1, .int x1), (2, .int x2), (3, .int x3)]) : W p l e rm_J7_fill_53178 s m args below meth c H locs 0 0 Z (F0 m 5 ls []) := by
  obtain ⟨⟨hx, hb, hml, hown, hts⟩, hK, -, -⟩ := id C0
  unfold wb_fillF_5 at hd
  refine lv_iload_n hx hb dJ7_fill_53178_5 rfl (lv_at hl 2 rfl) ?_
  refine lv_iload_n hx hb dJ7_fill_53178_6 rfl (lv_at hl 3 rfl) ?_
  refine lv_icmp_ge (tgt := 20) hx hb dJ7_fill_53178_7 (by decide) (fun hc => ?_) (fun hc => ?_)
  · have hd := hd.1 hc
    exact hret _ _ _ _ _ hd hP hS dJ7_fill_53178_20
  · have hd := hd.2 hc
    refine lv_aload_n hx hb dJ7_fill_53178_10 rfl (lv_at hl 0 rfl) ?_
    refine lv_iload_n hx hb dJ7_fill_53178_11 rfl (lv_at hl 2 rfl) ?_
    refine lv_iload_n hx hb dJ7_fill_53178_12 rfl (lv_at hl 1 rfl) ?_
    obtain ⟨h_1, hd⟩ := hd
    refine stF hk0 C0 hP hS h_1 dJ7_fill_53178_13 (fun H locs hP hS => ?_)
    refine lv_iinc (v := x2 + (1 : Int32)) (lv' := [(2, .int (x2 + (1 : Int32))), (0, .ref (h k0)), (1, .int x1), (3, .int x3)]) hx hb dJ7_fill_53178_14 hl (k := 2) rfl rfl (by decide) rfl (fun ls hl => ?_)
    refine lv_goto (tgt := 5) hx hb dJ7_fill_53178_17 (by decide) ?_
    exact k5 _ _ _ _ _ _ _ hd hP hS (lv_sub hl [1, 2, 0, 3] rfl)
def wl_fillF_5 (nn k0 : Nat) (Q : sT → Prop) : Nat → Int32 → Int32 → Int32 → sT → Prop
  | 0, _, _, _ => fun _ => False
  | n + 1, x1, x2, x3 => fun S => wb_fillF_5 nn k0 Q (fun x1 x2 x3 S => wl_fillF_5 nn k0 Q n x1 x2 x3 S) x1 x2 x3 S
theorem bl_fillF_5 {p : Program} {l : Launch} {e : Env} {s : State} {m : MethodId} {args : Array Value} {below : List Frame} {meth : Method} {c : Code} {Z : State → Prop} {D : va_G} {cA : Nat → ClassId} {h : Nat → Nat} {Q : sT → Prop} {nn k0 : Nat} (C0 : cx p s m args c cJ7_fill_53178 4 RJ7 D cA false keysF h) (hret : rtV p l e rm_J7_fill_53178 s m args below meth c cJ7_fill_53178 Z D (wF nn h cA) (aK keysF h s.heap.size) Q) (hk0 : k0 ∈ keysF) : ∀ (n : Nat) (x1 : Int32) (x2 : Int32) (x3 : Int32) (S : sT) (H : Heap) (locs : List Loc) (ls : Array Slot), va_P D vwCl (wF nn h cA S) H → va_S (aK keysF h s.heap.size) s.heap H locs → wl_fillF_5 nn k0 Q n x1 x2 x3 S → lv_has ls 4 [(0, .ref (h k0)), (1, .int x1), (2, .int x2), (3, .int x3)] → W p l e rm_J7_fill_53178 s m args below meth c H locs 0 0 Z (F0 m 5 ls []) := by
  intro n
  induction n with
  | zero => intro x1 x2 x3 S H locs ls hP hS hd hl; exact (show False from hd).elim
  | succ n ih => intro x1 x2 x3 S H locs ls hP hS hd hl; exact bk_fillF_5 C0 hret hk0 (fun x1 x2 x3 S H locs ls hd hP hS hl => ih x1 x2 x3 S H locs ls hP hS hd hl) hP hS hd hl
def wp_fillF (nn k0 : Nat) (x1 : Int32) (S : sT) (Q : sT → Prop) : Prop :=
  ∃ n : Nat, wl_fillF_5 nn k0 Q n x1 (0 : Int32) (nI (nn)) S
set_option maxHeartbeats 4000000 in
set_option maxRecDepth 100000 in
theorem bk_fillF {p : Program} {l : Launch} {e : Env} {s : State} {m : MethodId} {args : Array Value} {below : List Frame} {meth : Method} {c : Code} {Z : State → Prop} {D : va_G} {cA : Nat → ClassId} {h : Nat → Nat} {Q : sT → Prop} {nn k0 : Nat} (C0 : cx p s m args c cJ7_fill_53178 4 RJ7 D cA false keysF h) (hret : rtV p l e rm_J7_fill_53178 s m args below meth c cJ7_fill_53178 Z D (wF nn h cA) (aK keysF h s.heap.size) Q) (hk0 : k0 ∈ keysF) {x1 : Int32} {S : sT} {H : Heap} {locs : List Loc} {ls : Array Slot} (hP : va_P D vwCl (wF nn h cA S) H) (hS : va_S (aK keysF h s.heap.size) s.heap H locs) (hd : wp_fillF nn k0 x1 S Q) (hl : lv_has ls 4 [(0, .ref (h k0)), (1, .int x1)]) : W p l e rm_J7_fill_53178 s m args below meth c H locs 0 0 Z (F0 m 0 ls []) := by
  obtain ⟨⟨hx, hb, hml, hown, hts⟩, hK, -, -⟩ := id C0
  unfold wp_fillF at hd
  refine lv_iconst (v := 0) hx hb dJ7_fill_53178_0 (by decide) ?_
  refine lv_istore_n (lv' := [(2, .int (0 : Int32)), (0, .ref (h k0)), (1, .int x1)]) hx hb dJ7_fill_53178_1 rfl hl (by decide) rfl (fun ls hl => ?_)
  refine lv_aload_n hx hb dJ7_fill_53178_2 rfl (lv_at hl 1 rfl) ?_
  refine alF hk0 C0 hP dJ7_fill_53178_3 ?_
  refine lv_istore_n (lv' := [(3, .int (nI (nn))), (2, .int (0 : Int32)), (0, .ref (h k0)), (1, .int x1)]) hx hb dJ7_fill_53178_4 rfl hl (by decide) rfl (fun ls hl => ?_)
  obtain ⟨n_1, hd⟩ := hd
  exact bl_fillF_5 C0 hret hk0 _ _ _ _ _ _ _ _ hP hS hd (lv_sub hl [2, 3, 1, 0] rfl)
theorem c_fillF (l : Launch) {D : va_G} {cA : Nat → ClassId} {h : Nat → Nat} (hk : ky keysF h) {nn k0 : Nat} (hk0 : k0 ∈ keysF) {x1 : Int32} {S : sT} (sz : Nat) {Q : sT → Prop} (hd : wp_fillF nn k0 x1 S Q) : Met l yJ7_fill_53178 (wsU yJ7_fill_53178 cJ7_fill_53178 4 none) rm_J7_fill_53178 (va_Pc [.ref (h k0), .int x1] (gP D cA false keysF h (wF nn h cA) S sz)) (va_Qv Q (wB D (wF nn h cA)) (aK keysF h sz)) 0 0 (aK keysF h sz) :=
  mk_v (by decide) hk (Nat.le_of_ble_eq_true rfl) (fun p e s m below meth c Z ls C0 hret hP hS hl => bk_fillF C0 hret hk0 hP hS hd hl)
theorem uA_uA (S : sT) (k : Nat) (f g : Nat → Int32) : uA (uA S k f) k g = uA S k g := by
  unfold uA
  simp only [bx_uu]
theorem uA_id (S : sT) (k : Nat) : uA S k (vA S k) = S := by
  have h : va_up S.2.2.1 k (S.2.2.1 k) = S.2.2.1 := by
    funext j
    unfold va_up
    by_cases e : j = k
    · rw [if_pos e, e]
    · rw [if_neg e]
  unfold uA vA
  rw [h]
theorem vA_uA (S : sT) (k : Nat) (f : Nat → Int32) : vA (uA S k f) k = f := by
  unfold vA uA va_up
  simp
theorem q_fillF (nn : Nat) (hnn : nn < 2 ^ 31) (k0 : Nat) (x : Int32) (S : sT) (Q : sT → Prop) (h : ∀ f : Nat → Int32, (∀ j, j < nn → f j = x) → Q (uA S k0 f)) : wp_fillF nn k0 x S Q := by
  unfold wp_fillF
  have h9 := pk_loop (fun n i (f : Nat → Int32) => wl_fillF_5 nn k0 Q n x (nI i) (nI nn) (uA S k0 f)) (fun i f => ∀ j, j < i → f j = x) nn 0 (vA S k0) (Nat.zero_le _) (fun j hj => absurd hj (Nat.not_lt_zero j)) ?_ ?_
  · obtain ⟨n, hn⟩ := h9
    try dsimp only at hn
    rw [uA_id] at hn
    exact ⟨n, hn⟩
  · intro n f hf
    show wb_fillF_5 nn k0 Q _ x (nI nn) (nI nn) (uA S k0 f)
    unfold wb_fillF_5
    exact ⟨fun _ => h f hf, fun hc => absurd (nI_le (Nat.le_refl nn) hnn) hc⟩
  · intro n i f hi hf ih
    show wb_fillF_5 nn k0 Q _ x (nI i) (nI nn) (uA S k0 f)
    unfold wb_fillF_5
    refine ⟨fun hc => absurd hc (nI_ge hi hnn), fun _ => ⟨vp_in_nI hi hnn, ?_⟩⟩
    have h2 := ih (upd f i x) (fun j hj => by
      unfold upd
      by_cases e : j = i
      · rw [if_pos e]
      · rw [if_neg e]
        exact hf j (by omega))
    try dsimp only at h2 ⊢
    rw [vA_uA, uA_uA, nI_clamp (Nat.lt_trans hi hnn)]
    rw [← nI_1] at h2
    exact h2
theorem cl_fill {p : Program} {l : Launch} {e : Env} {R : Room} {s : State} {m : MethodId} {args : Array Value} {below : List Frame} {meth : Method} {c : Code} {H : Heap} {locs : List Loc} {Z : State → Prop} {cc : ByteArray} {nL index pc cells slots N : Nat} {own : String} {D : va_G} {cA : Nat → ClassId} {A : Nat → Prop} {ws : va_W} {b : Nat} {f : Nat → Int32} {x : Int32} {rest : List Value} {ls : Array Slot} (hN : N < 2 ^ 31) (C : CallFix p m c cc nL s args lwG own) (hK : kM D cA s) (hP : va_P D vwCl (ws ++ [(b, .inl (cA 0, N, .inl f))]) H) (hD : va_D A (ws ++ [(b, .inl (cA 0, N, .inl f))])) (hS : va_S A s.heap H locs) (hA : ∀ q, s.heap.size ≤ q → A q)
    (hG : GoodIn lwG (va_wsS own index yJ7_fill_53178 (wsU yJ7_fill_53178 cJ7_fill_53178 4 none))) (hrs : (rest.map fun v => v.category).sum ≤ 8) (hR : 1 ≤ R.frames ∧ 23 ≤ R.locals) (hdg : decode cc pc = .ok (.invokestatic index, 3)) (hls : ls.size = nL) (hcs : cells ≤ R.cells ∧ slots ≤ R.slots)
    (kk : ∀ (g : Nat → Int32) (H1 : Heap) (locs1 : List Loc), (∀ j, j < N → g j = x) → va_P D vwCl (ws ++ [(b, .inl (cA 0, N, .inl g))]) H1 → va_D A (ws ++ [(b, .inl (cA 0, N, .inl g))]) → va_S A s.heap H1 locs1 → W p l e R s m args below meth c H1 locs1 cells slots Z (F0 m (pc + 3) ls rest)) : W p l e R s m args below meth c H locs cells slots Z (F0 m pc ls (.int x :: .ref b :: rest)) := by
  have hx : (ws ++ [(b, .inl (cA 0, N, .inl f))])[ws.length]? = some (b, .inl (cA 0, N, .inl f)) := by simp
  have hk : ky keysF (fun _ => b) := ⟨by decide, fun a ha c hc _ => by rw [List.mem_singleton.mp ha, List.mem_singleton.mp hc]⟩
  have hF1 : ∀ q, aK keysF (fun _ => b) H.size q → A q := by
    rintro q (⟨k, -, rfl⟩ | h)
    · exact hD.2 ws.length _ hx
    · exact hA q (Nat.le_trans hS.1 h)
  have hPc : va_P D vwCl (wF N (fun _ => b) cA (fun _ => 0, fun _ => 0, fun _ => f, fun _ _ => 0, 0)) H := by
    intro k y h
    have hk0 : k < 1 := (List.getElem?_eq_some_iff.mp h).1
    have hk1 : k = 0 := by omega
    subst hk1
    cases h
    exact hP ws.length _ hx
  have hM := c_fillF l (D := D) (cA := cA) hk (nn := N) (k0 := 0) (by decide) H.size (q_fillF N hN 0 x (fun _ => 0, fun _ => 0, fun _ => f, fun _ _ => 0, 0) (fun S => ∀ j, j < N → vA S 0 j = x) (fun g hg j hj => by rw [vA_uA]; exact hg j hj))
  refine va_callv (va_runS (As := [.ref b, .int x]) (rest := rest) C hM (va_cwS 2 C.2.2.2.2 hG rfl rfl rfl (by decide +kernel) ⟨hR.1, hR.2⟩) ⟨gP.blind, fun U hU hW => ⟨rfl, by rw [hU], by rw [hU]; exact hPc, hK.1.warm hW, fun h => by cases h⟩⟩ rfl rfl hls rfl (lv_room hrs) hdg hcs) hS (fun q _ h => hF1 q h) hF1 (fun u t H1 locs1 ht hvm hw hB hz1 hk1 hS1 => ?_)
  have hB1 : va_P D vwCl (wF N (fun _ => b) cA u) t.heap := hB
  rw [ht] at hB1
  have hA1 : ∀ q, va_A [(b, .inl (cA 0, N, .inl f))] H.size q → aK keysF (fun _ => b) H.size q := by
    rintro q (⟨k, e, h⟩ | h)
    · have hk0 : k < 1 := (List.getElem?_eq_some_iff.mp h).1
      have hk1 : k = 0 := by omega
      subst hk1
      cases h
      exact Or.inl ⟨0, by decide, rfl⟩
    · exact Or.inr h
  have hA2 : ∀ q, aK keysF (fun _ => b) H.size q → va_A [(b, .inl (cA 0, N, .inl f))] H.size q := by
    rintro q (⟨k, -, rfl⟩ | h)
    · exact Or.inl ⟨0, _, rfl⟩
    · exact Or.inr h
  obtain ⟨hP2, hD2⟩ := join_last hP hD (fun q h1 h2 => hk1 q h1 (fun h => h2 (hA2 q h))) (fun q h => hF1 q (hA1 q h)) hB1 ((wD (wF_fst N (fun _ => b) cA u) hk H.size).weaken (fun k q _ h => hA2 q.1 h))
  exact kk (vA u 0) H1 locs1 hw hP2 hD2 hS1
