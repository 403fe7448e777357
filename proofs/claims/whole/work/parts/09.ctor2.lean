/-! contracts of makings -/
def pM (D : va_G) (cA : Nat → ClassId) (ws : va_W) (sz : Nat) (U : State) : Prop := U.heap.size = sz ∧ va_P D vwCl ws U.heap ∧ kM D cA U ∧ va_D (fun _ => True) ws
theorem pM.blind {D : va_G} {cA : Nat → ClassId} {ws : va_W} {sz : Nat} {av : List Value} : FrameBlind (va_Pc av (pM D cA ws sz)) := fun a U g mk q => ⟨q.1, q.2.1, q.2.2.1, q.2.2.2.1.call a g mk, q.2.2.2.2⟩
theorem mk_c {l : Launch} {y : MethodName} {cc : ByteArray} {maxL mc ms : Nat} {rm : Room} {D : va_G} {cA : Nat → ClassId} {ws : va_W} {sz : Nat} {av : List Value} {S : Type} {B : (Nat → Prop) → S → Heap → Prop} (hy : plainName y.cls = true) (hlen : (lg_sl av).length ≤ maxL)
    (body : ∀ (p : Program) (e : Env) (s : State) (m : MethodId) (below : List Frame) (meth : Method) (c : Code) (Z : State → Prop) (ls : Array Slot), CallFix p m c cc maxL s av.toArray lwG y.cls → meth.name = y.name → kM D cA s → va_P D vwCl ws s.heap → va_D (va_A ws s.heap.size) ws → (∀ q, s.heap.size ≤ q → va_A ws s.heap.size q) → va_S (va_A ws s.heap.size) s.heap s.heap [] → (∀ (u : S) (H : Heap) (locs : List Loc) (ls : Array Slot) (pc : Nat), B (va_A ws s.heap.size) u H → va_S (va_A ws s.heap.size) s.heap H locs → decode cc pc = .ok (.return_, 1) → W p l e rm s m av.toArray below meth c H locs mc ms Z (F0 m pc ls [])) → lv_has ls maxL (lv_args 0 av) → W p l e rm s m av.toArray below meth c s.heap [] 0 0 Z (F0 m 0 ls [])) :
    Met l y (wsU y cc maxL none) rm (va_Pc av (pM D cA ws sz)) (va_Qv (fun _ : S => True) (fun u t => B (va_A ws sz) u t.heap) (va_A ws sz)) mc ms (va_A ws sz) := by
  refine Met.ofW (cc := cc) (maxL := maxL) (ret := none) hy rfl ?_
  intro p e s m args below meth c s₁ B0 hml hv
  obtain ⟨rfl, hsz, hP, hK, hD0⟩ := hv
  subst hsz
  have hl := lv_entry av (n := maxL) hlen
  rw [lg_entry_eq]
  generalize (lg_sl av ++ List.replicate (maxL - (lg_sl av).length) Slot.unset).toArray = ls at hl ⊢
  have hlocks := B0.notSynchronized
  have hts := atoms_spec (ws := wsU y cc maxL none) B0.pre
  exact body p e s m below meth c _ ls ⟨B0.exec, B0.bytes, hml, findClass_of_methodNamed B0.named, fun w hw => hts w (List.mem_cons_of_mem _ hw)⟩ (name_of_methodNamed B0.named B0.method).1 hK hP (hD0.self (sz := s.heap.size)) (fun q h => Or.inr h) va_S.rf (fun u H locs ls pc hB hS hd => W.vret B0.exec B0.bytes B0.returns (fun t ht hW => ⟨⟨u, rfl, trivial, by show B _ u t.heap; rw [ht]; exact hB⟩, hS.F ht⟩) hS.2.2 hd) hl
theorem join_last {A0 : Nat → Prop} {D : va_G} {cl : List vw_C} {ws w1 : va_W} {x : Nat × va_E} {H H1 : Heap} (hP : va_P D cl (ws ++ [x]) H) (hD : va_D A0 (ws ++ [x])) (hk : ∀ q : Nat, q < H.size → ¬ va_A [x] H.size q → H1[q]? = H[q]?) (hF : ∀ q, va_A [x] H.size q → A0 q) (hP1 : va_P D cl w1 H1) (hD1 : va_D (va_A [x] H.size) w1) : va_P D cl (ws ++ w1) H1 ∧ va_D A0 (ws ++ w1) := by
  have up : ∀ {i : Nat} {q : Nat × va_E}, ws[i]? = some q → (ws ++ [x])[i]? = some q ∧ i < ws.length := fun {i q} h => by
    have hl : i < ws.length := (List.getElem?_eq_some_iff.mp h).1
    exact ⟨by rw [List.getElem?_append_left hl]; exact h, hl⟩
  have hx : (ws ++ [x])[ws.length]? = some x := by simp
  have apart : ∀ {i : Nat} {q : Nat × va_E}, ws[i]? = some q → q.1 < H.size ∧ ¬ va_A [x] H.size q.1 := by
    intro i q h
    have hl := (hP i q (up h).1).lt
    refine ⟨hl, fun h9 => ?_⟩
    rcases h9 with ⟨k, e, h9⟩ | h9
    · have hk0 : k < 1 := (List.getElem?_eq_some_iff.mp h9).1
      have hk1 : k = 0 := by omega
      subst hk1
      cases h9
      have := hD.1 i ws.length q (q.1, e) (up h).1 hx rfl
      have := (up h).2
      omega
    · omega
  refine ⟨va_P.app (fun i q h => (hP i q (up h).1).kept (hk q.1 (apart h).1 (apart h).2)) hP1, va_D.app ⟨fun i j a b ha hb e => hD.1 i j a b (up ha).1 (up hb).1 e, fun i q h => hD.2 i q (up h).1⟩ (hD1.weaken (fun k q _ h => hF q.1 h)) (fun i j a b ha hb e => ?_)⟩
  exact (apart ha).2 (by rw [e]; exact hD1.2 j b hb)
theorem cl_I {p : Program} {l : Launch} {e : Env} {R : Room} {s : State} {m : MethodId} {args : Array Value} {below : List Frame} {meth : Method} {c : Code} {H : Heap} {locs : List Loc} {Z : State → Prop} {cc bytes : ByteArray} {nL maxL index n pc cells slots mc ms : Nat} {own host : String} {y : MethodName} {rm : Room} {D : va_G} {cA : Nat → ClassId} {A : Nat → Prop} {ws : va_W} {q : Nat} {e0 : va_E} {As rest st : List Value} {ls : Array Slot} {S : Type} {w1 : S → va_W} (C : CallFix p m c cc nL s args lwG own) (hK : kM D cA s) (hP : va_P D vwCl (ws ++ [(q, e0)]) H) (hD : va_D A (ws ++ [(q, e0)])) (hS : va_S A s.heap H locs) (hA : ∀ q, s.heap.size ≤ q → A q)
    (hM : Met l y (wsU y bytes maxL none) rm (va_Pc (.ref q :: As) (pM D cA [(q, e0)] H.size)) (va_Qv (fun _ : S => True) (fun u t => va_P D vwCl (w1 u) t.heap ∧ va_D (va_A [(q, e0)] H.size) (w1 u)) (va_A [(q, e0)] H.size)) mc ms (va_A [(q, e0)] H.size)) (hG : GoodIn lwG (wsU y bytes maxL none)) (hq : (own, index, y, host) ∈ nestM) (hi1 : Cond.initialized y.cls ∈ lwG) (hi2 : Cond.instanceMethod y ∈ lwG) (hi3 : y.name = "<init>") (hd : y.cls ≠ "java/lang/invoke/MethodHandle" ∧ y.cls ≠ "java/lang/invoke/VarHandle" ∧ (parseMethodDescriptor y.desc).map (fun d => d.parameters.length) = some n) (hn : As.length = n) (hst : st = As.reverse ++ .ref q :: rest) (hrs : (rest.map fun v => v.category).sum ≤ 8) (hrm : rm.cells = mc ∧ rm.slots = ms) (hR : rm.frames + 1 ≤ R.frames ∧ 8 + (maxL + 11) + rm.locals ≤ R.locals) (hdg : decode cc pc = .ok (.invokespecial index, 3)) (hls : ls.size = nL) (hcs : cells + mc ≤ R.cells ∧ slots + ms ≤ R.slots)
    (kk : ∀ (u : S) (H1 : Heap) (locs1 : List Loc), va_P D vwCl (ws ++ w1 u) H1 → va_D A (ws ++ w1 u) → va_S A s.heap H1 locs1 → W p l e R s m args below meth c H1 locs1 (cells + mc) (slots + ms) Z (F0 m (pc + 3) ls rest)) : W p l e R s m args below meth c H locs cells slots Z (F0 m pc ls st) := by
  subst hst
  have hx : (ws ++ [(q, e0)])[ws.length]? = some (q, e0) := by simp
  have hF : ∀ x, va_A [(q, e0)] H.size x → A x := by
    rintro x (⟨k, e, h⟩ | h)
    · have hk0 : k < 1 := (List.getElem?_eq_some_iff.mp h).1
      have hk1 : k = 0 := by omega
      subst hk1
      cases h
      exact hD.2 ws.length (q, e0) hx
    · exact hA x (Nat.le_trans hS.1 h)
  have hPc : va_P D vwCl [(q, e0)] H := by
    intro k x h
    have hk0 : k < 1 := (List.getElem?_eq_some_iff.mp h).1
    have hk1 : k = 0 := by omega
    subst hk1
    cases h
    exact hP ws.length (q, e0) hx
  have hDc : va_D (fun _ => True) [(q, e0)] := ⟨fun i j a b ha hb _ => by
    have h1 : i < 1 := (List.getElem?_eq_some_iff.mp ha).1
    have h2 : j < 1 := (List.getElem?_eq_some_iff.mp hb).1
    omega, fun _ _ _ => trivial⟩
  exact va_callv (va_runIN (As := As) (rest := rest) C hM ⟨va_cnB n C.2.2.2.2 hG rfl hrm.1 hrm.2 (hK.1.2.2 _ hq) (C.2.2.2.2 _ hi1) hd hR, hi3, C.2.2.2.2 _ hi2⟩ ⟨pM.blind, fun U hU hW => ⟨rfl, by rw [hU], by rw [hU]; exact hPc, hK.warm hW, hDc⟩⟩ rfl hn hls rfl (lv_room hrs) hdg hcs) hS (fun q _ h => hF q h) hF (fun u t H1 locs1 ht hvm hw hB hz1 hk1 hS1 => by
    obtain ⟨hP1, hD1⟩ := hB
    rw [ht] at hP1
    obtain ⟨hP2, hD2⟩ := join_last hP hD hk1 hF hP1 hD1
    exact kk u H1 locs1 hP2 hD2 hS1)
theorem va_cellq {D : va_G} {cl : List vw_C} {ws : va_W} {H : Heap} (hP : va_P D cl ws H) (k : Nat) {a : Nat} {cB : ClassId} {n : Nat} {f : Nat → Option Nat} (g : Nat → Option Nat) (hk : ws[k]? = some (a, .inl (cB, n, oq f))) (h : ∀ j, j < n → f j = g j) : va_P D cl (ws.set k (a, .inl (cB, n, oq g))) H := by
  intro i q hq
  rw [List.getElem?_set] at hq
  by_cases e : k = i
  · subst e
    rw [if_pos rfl] at hq
    split at hq
    · cases hq
      have h9 : H[a]? = some (vp_cell cB (n, oq f)) := hP k _ hk
      show H[a]? = some (vp_cell cB (n, oq g))
      rw [h9, vp_cell_q, vp_cell_q]
      exact congrArg some (arrV_congr _ (fun j hj => by rw [h j hj]))
    · cases hq
  · rw [if_neg e] at hq
    exact hP i q hq
theorem va_celli {D : va_G} {cl : List vw_C} {ws : va_W} {H : Heap} (hP : va_P D cl ws H) (k : Nat) {a : Nat} {cB : ClassId} {n : Nat} {f : Nat → Int32} (g : Nat → Int32) (hk : ws[k]? = some (a, .inl (cB, n, .inl f))) (h : ∀ j, j < n → f j = g j) : va_P D cl (ws.set k (a, .inl (cB, n, .inl g))) H := by
  intro i q hq
  rw [List.getElem?_set] at hq
  by_cases e : k = i
  · subst e
    rw [if_pos rfl] at hq
    split at hq
    · cases hq
      have h9 : H[a]? = some (vp_cell cB (n, .inl f)) := hP k _ hk
      show H[a]? = some (vp_cell cB (n, .inl g))
      rw [h9, vp_cell_i, vp_cell_i]
      exact congrArg some (arrV_congr _ (fun j hj => by rw [h j hj]))
    · cases hq
  · rw [if_neg e] at hq
    exact hP i q hq
