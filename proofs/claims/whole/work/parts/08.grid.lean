/-! new T[n][m]: the machine's own 'make', with the walk's facts carried along its loop -/
theorem gd_over {args : Array Value} {s : State} {t : FieldType} (h : (Cond.arrayOver (.array t)).before args s = true) :
    ∃ (comp c : ClassId) (k : Class), s.vm.findClass (FieldType.array t).toString = some comp ∧ s.vm.classes[c]? = some k ∧ k.kind = .array comp (.array t) ∧ s.vm.findClass ("[" ++ (FieldType.array t).toString) = some c := by
  unfold Cond.before Cond.holds at h
  simp only [Cond.value, beq_iff_eq] at h
  rcases hc : s.vm.findClass (FieldType.array t).toString with _ | comp
  · rw [hc] at h
    simp at h
  · rw [hc, Option.bind_some] at h
    obtain ⟨c, hi, h2⟩ := Option.bind_eq_some_iff.mp h
    obtain ⟨k, hk, hb⟩ := Option.map_eq_some_iff.mp h2
    obtain ⟨hlt, hp, -⟩ := Array.findIdx?_eq_some_iff_getElem.mp hi
    rw [(Array.getElem?_eq_some_iff.mp hk).2] at hp
    rcases hkd : k.kind with _ | _ | ⟨c2, t2⟩ <;> rw [hkd] at hb hp <;> simp at hb hp
    refine ⟨comp, c, k, rfl, hk, ?_, hb.2⟩
    rw [hkd, hp, hb.1]
theorem gd_new {E : CtlPost} {e : Env} {d : Bool} {acts : List Action} {s : State} {c comp : ClassId} {k : Class} {ty : FieldType} {n : Nat} {v : Value} {Q : Addr → Pre} (hk : s.vm.classes[c]? = some k) (hkd : k.kind = .array comp ty) (hl : n ≤ e.platform.arrayLengthLimit) (hh : n * componentBytes ty ≤ e.platform.maxHeapBytes) (hf : fits ty v = true) (hv : v.isDefault = true) (h1 : s.heap.size < e.platform.maxCells) (h2 : s.slotsUsed + n ≤ e.platform.maxSlots)
    (hq : ∀ acts', Q s.heap.size d acts' (s.pushCell (arrV c n (fun _ => v)))) : wp (Jvm.newArray c n v) Q E e d acts s := by
  have hfit : ∀ i x, (Array.replicate n v)[i]? = some x → s.fitsSlot c .none i x = true := by
    intro i x hx
    rw [Array.getElem?_replicate] at hx
    split at hx
    · cases hx
      simp [State.fitsSlot, State.slotType?, hk, hkd, hf]
    · cases hx
  simp only [Jvm.newArray, Jvm.arrayFits, wp_bind', W.ask, W.ite, if_neg (Nat.not_lt.mpr hl), wp_pure', W.theClass, hk, hkd, Option.some.injEq, exists_eq_left', if_neg (Nat.not_lt.mpr hh), W.alloc, W.stop, Array.size_replicate]
  have hcond : ¬ (n > e.platform.arrayLengthLimit) := Nat.not_lt.mpr hl
  simp only [gt_iff_lt, Nat.not_lt.mpr hl, Nat.not_lt.mpr hh, if_false]
  rw [if_neg (by omega)]
  refine ⟨h1, h2, hfit, ?_⟩
  rw [arrV_new]
  exact hq _
theorem gd_make1 {E : CtlPost} {e : Env} {d : Bool} {acts : List Action} {s : State} {c comp : ClassId} {k : Class} {ty : FieldType} {n : Int32} {Q : Addr → Pre} (hk : s.vm.classes[c]? = some k) (hkd : k.kind = .array comp ty) (hn : ¬ n < 0) (hl : n.toNatClampNeg ≤ e.platform.arrayLengthLimit) (hh : n.toNatClampNeg * componentBytes ty ≤ e.platform.maxHeapBytes) (hf : fits ty (defaultValue ty) = true) (hv : (defaultValue ty).isDefault = true) (h1 : s.heap.size < e.platform.maxCells) (h2 : s.slotsUsed + n.toNatClampNeg ≤ e.platform.maxSlots)
    (hq : ∀ acts', Q s.heap.size d acts' (s.pushCell (arrV c n.toNatClampNeg (fun _ => defaultValue ty)))) : wp (Op.multianewarray.make c [n]) Q E e d acts s := by
  rw [Op.multianewarray.make]
  simp only [wp_bind', W.ite, hn, if_false, wp_pure', W.theClass, hk, hkd, Option.some.injEq, exists_eq_left']
  exact gd_new hk hkd hl hh hf hv h1 h2 hq
/-- the state when i rows are made -/
def gd_st (T : State) (cB cD : ClassId) (N K : Nat) (v : Value) : Nat → State
  | 0 => T.pushCell (arrV cB N (fun _ => .null))
  | i + 1 => ((gd_st T cB cD N K v i).pushCell (arrV cD K (fun _ => v))).setCell T.heap.size (arrV cB N (fun j => if j < i + 1 then .ref (T.heap.size + 1 + j) else .null))
theorem gd_row (cB : ClassId) (N h0 i : Nat) : (arrV cB N (fun j => if j < i then Value.ref (h0 + 1 + j) else .null)).setSlot i (.ref (h0 + 1 + i)) = arrV cB N (fun j => if j < i + 1 then .ref (h0 + 1 + j) else .null) := by
  rw [arrV_store]
  congr 1
  funext j
  unfold updV
  by_cases e : j = i
  · subst e
    simp
  · rw [if_neg e]
    show (if j < i then Value.ref (h0 + 1 + j) else .null) = _
    by_cases h : j < i
    · rw [if_pos h, if_pos (by omega)]
    · rw [if_neg h, if_neg (by omega)]
theorem gd_facts (T : State) (cB cD : ClassId) (N K : Nat) (v : Value) : ∀ i, (gd_st T cB cD N K v i).vm = T.vm ∧ (gd_st T cB cD N K v i).heap.size = T.heap.size + 1 + i ∧ (gd_st T cB cD N K v i).slotsUsed = T.slotsUsed + N + i * K ∧ (gd_st T cB cD N K v i).heap[T.heap.size]? = some (arrV cB N (fun j => if j < i then .ref (T.heap.size + 1 + j) else .null)) ∧ (∀ j, j < i → (gd_st T cB cD N K v i).heap[T.heap.size + 1 + j]? = some (arrV cD K (fun _ => v))) ∧ ∀ q : Nat, q < T.heap.size → (gd_st T cB cD N K v i).heap[q]? = T.heap[q]?
  | 0 => by
    refine ⟨rfl, by simp [gd_st], by simp [gd_st, arrV_size], ?_, fun j h => absurd h (Nat.not_lt_zero j), fun q hq => State.heap_pushCell_of_lt _ _ hq⟩
    have h0 : (fun j : Nat => if j < 0 then Value.ref (T.heap.size + 1 + j) else .null) = fun _ => .null := funext fun j => if_neg (Nat.not_lt_zero j)
    rw [h0]
    exact State.heap_pushCell_size _ _
  | i + 1 => by
    obtain ⟨f1, f2, f3, f4, f5, f6⟩ := gd_facts T cB cD N K v i
    have hlt : T.heap.size < (gd_st T cB cD N K v i).heap.size := by omega
    have f4' : ((gd_st T cB cD N K v i).pushCell (arrV cD K (fun _ => v))).heap[T.heap.size]? = some (arrV cB N (fun j => if j < i then .ref (T.heap.size + 1 + j) else .null)) := by rw [State.heap_pushCell_of_lt (h := hlt)]; exact f4
    refine ⟨by simp [gd_st, f1], ?_, ?_, State.heap_setCell_self f4', fun j hj => ?_, fun q hq => ?_⟩
    · simp [gd_st, State.setCell, f2]; omega
    · simp [gd_st, f3, arrV_size, Nat.succ_mul]; omega
    · show (((gd_st T cB cD N K v i).pushCell (arrV cD K (fun _ => v))).setCell T.heap.size _).heap[T.heap.size + 1 + j]? = _
      rw [State.heap_setCell_other (show T.heap.size ≠ T.heap.size + 1 + j by omega)]
      by_cases e : j = i
      · subst e
        rw [← f2]
        exact State.heap_pushCell_size _ _
      · have hq : T.heap.size + 1 + j < (gd_st T cB cD N K v i).heap.size := by omega
        rw [State.heap_pushCell_of_lt (h := hq)]
        exact f5 j (by omega)
    · show (((gd_st T cB cD N K v i).pushCell (arrV cD K (fun _ => v))).setCell T.heap.size _).heap[q]? = _
      have hq2 : q < (gd_st T cB cD N K v i).heap.size := by omega
      rw [State.heap_setCell_other (show T.heap.size ≠ q by omega), State.heap_pushCell_of_lt (h := hq2)]
      exact f6 q hq
theorem gd_top (T : State) (f : JFrame) (cB cD : ClassId) (N K : Nat) (v : Value) : ∀ i, gd_st (T.setTop f) cB cD N K v i = (gd_st T cB cD N K v i).setTop f
  | 0 => rfl
  | i + 1 => by simp only [gd_st, gd_top T f cB cD N K v i, State.heap_setTop, State.pushCell_setTop, State.setCell_setTop]
theorem gd_stand {p : Program} {l : Launch} {e : Env} {R : Room} {s : State} {m : MethodId} {args : Array Value} {below : List Frame} {meth : Method} {c : Code} {T : State} {locs : List Loc} {cells slots : Nat} (X : Stand p l e R s m args below meth c T locs cells slots) (cB cD : ClassId) (N K : Nat) (v : Value) : ∀ i, ∃ L : List Loc, (∀ x ∈ L, x.base = T.heap.size) ∧ Stand p l e R s m args below meth c (gd_st T cB cD N K v i) (locs ++ L) (cells + 1 + i) (slots + N + i * K)
  | 0 => by
    refine ⟨[], fun x h => absurd h List.not_mem_nil, ?_⟩
    have h := X.pushed (arrV cB N (fun _ => .null))
    rw [arrV_size] at h
    simpa [gd_st] using h
  | i + 1 => by
    obtain ⟨L, hL, Xi⟩ := gd_stand X cB cD N K v i
    obtain ⟨f1, f2, f3, f4, f5, f6⟩ := gd_facts T cB cD N K v i
    have hlt : T.heap.size < (gd_st T cB cD N K v i).heap.size := by omega
    have f4' : ((gd_st T cB cD N K v i).pushCell (arrV cD K (fun _ => v))).heap[T.heap.size]? = some (arrV cB N (fun j => if j < i then .ref (T.heap.size + 1 + j) else .null)) := by rw [State.heap_pushCell_of_lt (h := hlt)]; exact f4
    have h := (Xi.pushed (arrV cD K (fun _ => v))).stored f4' i (.ref (T.heap.size + 1 + i))
    rw [gd_row, arrV_size, List.append_assoc] at h
    refine ⟨L ++ [⟨T.heap.size, i⟩], fun x hx => ?_, ?_⟩
    · rcases List.mem_append.mp hx with h9 | h9
      · exact hL x h9
      · rw [List.mem_singleton.mp h9]
    · rw [show slots + N + (i + 1) * K = slots + N + i * K + K by rw [Nat.succ_mul]; omega]
      exact h
theorem W_mna {p : Program} {l : Launch} {e : Env} {R : Room} {s : State} {m : MethodId} {args : Array Value} {below : List Frame} {meth : Method} {c : Code} {H : Heap} {locs : List Loc} {cells slots : Nat} {Q : State → Prop} {cc : ByteArray} {pc : Nat} {ls : Array Slot} {rest : List Value} (hexec : p.tables.exec = Jvm.exec) (hb : c.code = cc) {own : String} {index : Nat} {ty : FieldType} (hown : s.vm.findClass own = some m.cls)
    (hclink : (Cond.classLink own index ("[" ++ (FieldType.array ty).toString)).before args s = true) (hover : (Cond.arrayOver (.array ty)).before args s = true) (harr : (Cond.arrayClass ty).before args s = true) {n k : Int32} (hn : ¬ n < 0) (hk : ¬ k < 0) (hb1 : n.toNatClampNeg * 4 ≤ 536870912) (hb2 : k.toNatClampNeg * componentBytes ty ≤ 536870912) (hb3 : k.toNatClampNeg ≤ 536870912) (hdf : fits ty (defaultValue ty) = true) (hdd : (defaultValue ty).isDefault = true)
    (hcells : cells + (1 + n.toNatClampNeg) ≤ R.cells) (hslots : slots + (n.toNatClampNeg + n.toNatClampNeg * k.toNatClampNeg) ≤ R.slots) (hdg : decode cc pc = .ok (.multianewarray index 2, 4)) (hfr : s.heap.size ≤ H.size)
    (kk : ∀ (H1 : Heap) (cB cD : ClassId), s.vm.findClass ("[" ++ (FieldType.array ty).toString) = some cB → s.vm.findClass (FieldType.array ty).toString = some cD → H1.size = H.size + 1 + n.toNatClampNeg → H1[H.size]? = some (arrV cB n.toNatClampNeg (fun j => if j < n.toNatClampNeg then .ref (H.size + 1 + j) else .null)) → (∀ j, j < n.toNatClampNeg → H1[H.size + 1 + j]? = some (arrV cD k.toNatClampNeg (fun _ => defaultValue ty))) → (∀ q : Nat, q < H.size → H1[q]? = H[q]?) →
      W p l e R s m args below meth c H1 locs (cells + 1 + n.toNatClampNeg) (slots + n.toNatClampNeg + n.toNatClampNeg * k.toNatClampNeg) Q (F0 m (pc + 4) ls (.ref H.size :: rest))) : W p l e R s m args below meth c H locs cells slots Q (F0 m pc ls (.int k :: .int n :: rest)) := by
  intro T hT X
  subst hT
  subst hb
  have hpl : e.platform.magicAccessors = ({} : Platform).magicAccessors := by rw [X.admits.platform]
  obtain ⟨cD, cB, kB, hD, hkB, hkdB, hB⟩ := gd_over hover
  obtain ⟨cD', kD, cE, hD', hkD, hkdD⟩ := Cond.arrayClass_spec harr
  cases hD'.symm.trans hD
  obtain ⟨c0, hc0, hcl⟩ := Cond.classLink_spec hown hclink e.platform hpl
  cases hB.symm.trans hc0
  obtain ⟨hg1, hw1, hr1⟩ := State.classEntry (e := e) X.warmed hcl
  generalize T.vm.noted m.cls index (.cls cB) = vm1 at hg1 hw1 hr1
  obtain ⟨kB1, hkB1, eB⟩ := hw1.alike.2.2 _ _ hkB
  obtain ⟨kD1, hkD1, eD⟩ := hw1.alike.2.2 _ _ hkD
  have hkdB1 : kB1.kind = .array cD (.array ty) := by rw [eB]; exact hkdB
  have hkdD1 : kD1.kind = .array cE ty := by rw [eD]; exact hkdD
  have X1 := X.noted hw1
  obtain ⟨rm1, rm2⟩ := X.roomAbove hcells hslots
  have hl1 : n.toNatClampNeg ≤ e.platform.arrayLengthLimit := by rw [Launch.admits_arrayLengthLimit X.admits]; omega
  have hh1 : n.toNatClampNeg * componentBytes (.array ty) ≤ e.platform.maxHeapBytes := by rw [Launch.admits_maxHeapBytes X.admits]; exact hb1
  have hl2 : k.toNatClampNeg ≤ e.platform.arrayLengthLimit := by rw [Launch.admits_arrayLengthLimit X.admits]; omega
  have hh2 : k.toNatClampNeg * componentBytes ty ≤ e.platform.maxHeapBytes := by rw [Launch.admits_maxHeapBytes X.admits]; exact hb2
  generalize hNd : n.toNatClampNeg = N at *
  generalize hKd : k.toNatClampNeg = K at *
  obtain ⟨L, hL, XF⟩ := gd_stand X1 cB cD N K (defaultValue ty) N
  obtain ⟨f1, f2, f3, f4, f5, f6⟩ := gd_facts (T.setVm vm1) cB cD N K (defaultValue ty) N
  have XF' := XF.dropFresh (fun x hx => by rw [hL x hx]; exact hfr)
  obtain ⟨t, a1, b1⟩ := kk (gd_st (T.setVm vm1) cB cD N K (defaultValue ty) N).heap cB cD hB hD f2 f4 f5 f6 _ rfl XF'
  refine ⟨t, ?_, b1⟩
  jvm_step X.here [hexec, hdg]
  simp only [Op.multianewarray.sem, wp_bind', W.resolveClassAt_links (State.method?_setTop (F0 m pc ls (.int k :: .int n :: rest)) X.here.top) hg1]
  rw [W.popN, if_neg (by decide)]
  refine ⟨F0 m pc ls (.int k :: .int n :: rest), State.topJava?_setTop' (s := T.setVm vm1) _ X.here.top, [.int n, .int k], rest, rfl, rfl, ?_⟩
  simp only [List.mapM_cons, List.mapM_nil, wp_bind', wp_pure']
  have eS : ((T.setTop (F0 m pc ls (.int k :: .int n :: rest))).setVm vm1).setTop { F0 m pc ls (.int k :: .int n :: rest) with stack := rest } = (T.setVm vm1).setTop (F0 m pc ls rest) := by
    show ((T.setVm vm1).setTop _).setTop _ = _
    rw [State.setTop_setTop]
  rw [eS]
  obtain ⟨TT, hTT⟩ : ∃ x : State, x = (T.setVm vm1).setTop (F0 m pc ls rest) := ⟨_, rfl⟩
  have tv : TT.vm = vm1 := by rw [hTT]; rfl
  have tz : TT.heap.size = T.heap.size := by rw [hTT]; rfl
  have tu : TT.slotsUsed = T.slotsUsed := by rw [hTT]; rfl
  have tf : gd_st TT cB cD N K (defaultValue ty) N = (gd_st (T.setVm vm1) cB cD N K (defaultValue ty) N).setTop (F0 m pc ls rest) := by rw [hTT, gd_top]
  rw [← hTT]
  have hkB2 : TT.vm.classes[cB]? = some kB1 := by rw [tv]; exact hkB1
  have hfind : ([k].find? (· < 0)) = none := by simp [hk]
  rw [Op.multianewarray.make]
  simp only [wp_bind', W.ite, hn, if_false, wp_pure', W.theClass, Option.some.injEq, exists_eq_left']
  refine ⟨kB1, hkB2, ?_⟩
  simp only [hkdB1]
  rw [wp_bind', hNd]
  refine gd_new (ty := .array ty) hkB2 hkdB1 hl1 hh1 rfl rfl (by rw [tz]; omega) (by rw [tu]; have := Nat.zero_le (N * K); omega) (fun acts' => ?_)
  simp only [hfind]
  rw [ite_self, wp_bind', Std.Legacy.Range.forIn_eq_forIn_range']
  have hsz : ([:N] : Std.Legacy.Range).size = N := by simp [Std.Legacy.Range.size]
  rw [hsz]
  refine wp_forIn_inv (fun rs s' => ∃ i, i ≤ N ∧ rs = List.range' i (N - i) ∧ s' = gd_st TT cB cD N K (defaultValue ty) i) _ _ ⟨0, Nat.zero_le _, rfl, rfl⟩ ?_ ?_
  · rintro x rs s' d' acts' Q' ⟨i, hi, hrs, rfl⟩ hnext
    have hlt : i < N := by
      rcases Nat.lt_or_ge i N with h | h
      · exact h
      · rw [show N - i = 0 by omega] at hrs
        simp at hrs
    rw [show N - i = (N - (i + 1)) + 1 by omega, List.range'_succ] at hrs
    obtain ⟨rfl, hrs2⟩ := List.cons.inj hrs
    obtain ⟨g1, g2, g3, g4, g5, g6⟩ := gd_facts TT cB cD N K (defaultValue ty) x
    have hmul : x * K + K ≤ N * K := by
      have := Nat.mul_le_mul_right K (show x + 1 ≤ N from hlt)
      rw [Nat.succ_mul] at this
      exact this
    have hlt0 : TT.heap.size < (gd_st TT cB cD N K (defaultValue ty) x).heap.size := by omega
    have hcell : ((gd_st TT cB cD N K (defaultValue ty) x).pushCell (arrV cD K (fun _ => defaultValue ty))).heap[TT.heap.size]? = some (arrV cB N (fun j => if j < x then .ref (TT.heap.size + 1 + j) else .null)) := by rw [State.heap_pushCell_of_lt (h := hlt0)]; exact g4
    have e1 : ((gd_st TT cB cD N K (defaultValue ty) x).pushCell (arrV cD K (fun _ => defaultValue ty))).vm = vm1 := g1.trans tv
    simp only [wp_bind']
    refine gd_make1 (k := kD1) (comp := cE) (ty := ty) (by rw [g1, tv]; exact hkD1) hkdD1 hk (by rw [hKd]; exact hl2) (by rw [hKd]; exact hh2) hdf hdd (by rw [g2, tz]; omega) (by rw [g3, hKd, tu]; omega) (fun acts2 => ?_)
    rw [hKd]
    simp only [wp_bind', W.writeLoc, wp_pure']
    refine ⟨_, hcell, by simp [arrV], by rw [arrV_size]; exact hlt, ?_, hnext _ _ _ ⟨x + 1, hlt, hrs2, ?_⟩⟩
    · unfold State.fitsSlot State.slotType?
      rw [e1]
      simp [arrV, hkB1, hkdB1, fits]
    · rw [g2, gd_row]
      rfl
  · rintro s' d' acts2 ⟨i, hi, hrs, rfl⟩
    have hiN : i = N := by
      rcases Nat.lt_or_ge i N with h | h
      · rw [show N - i = (N - (i + 1)) + 1 by omega, List.range'_succ] at hrs
        cases hrs
      · omega
    subst hiN
    simp only [wp_pure']
    rw [tf, tz]
    simp only [wp_bind', W.mark, W.pushRef, State.topJava?_setTop' _ XF.here.top, Option.some.injEq, exists_eq_left', State.setTop_setTop, State.heap_setTop]
    intro acts
    simp [jvm, XF.here.top]
    exact a1
