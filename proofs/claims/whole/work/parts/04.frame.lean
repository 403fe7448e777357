/-! the good words of the tables: every contract of ours is over these -/
def lwG : List Cond := lw_tbl.filter goodWord
theorem lwG_at {w : Cond} (i : Nat) (h : lw_tbl[i]? = some w) (hg : goodWord w = true) : w ∈ lwG := List.mem_filter.mpr ⟨List.mem_of_getElem? h, hg⟩
theorem lwG_in {ws : List Cond} (h : ∀ w ∈ ws, w ∈ lwG) : GoodIn lwG ws := fun w hw => ⟨h w hw, good_of_word (List.mem_filter.mp (h w hw)).2⟩
theorem lwG_V {own C : String} {idx : Nat} {y : MethodName} {cc : ByteArray} {n : Nat} {ret : Option FieldType} (h1 : Cond.methodLink own idx y ∈ lwG) (h2 : Cond.instanceMethod y ∈ lwG) (h3 : Cond.selects C y y ∈ lwG) (h4 : Cond.initialized C ∈ lwG) (h5 : Cond.code y cc n ret ∈ lwG) : GoodIn lwG (wsV own idx C y (Cond.code y cc n ret :: lwG)) := lwG_in (fun w hw => by
  simp only [wsV, List.cons_append, List.nil_append, List.mem_cons] at hw
  rcases hw with rfl | rfl | rfl | rfl | rfl | hw
  · exact h1
  · exact h2
  · exact h3
  · exact h4
  · exact h5
  · exact hw)
theorem lwG_S {own : String} {idx : Nat} {y : MethodName} {cc : ByteArray} {n : Nat} {ret : Option FieldType} (h1 : Cond.methodLink own idx y ∈ lwG) (h2 : Cond.static y ∈ lwG) (h4 : Cond.initialized y.cls ∈ lwG) (h5 : Cond.code y cc n ret ∈ lwG) : GoodIn lwG (va_wsS own idx y (Cond.code y cc n ret :: lwG)) := lwG_in (fun w hw => by
  simp only [va_wsS, List.cons_append, List.nil_append, List.mem_cons] at hw
  rcases hw with rfl | rfl | rfl | rfl | hw
  · exact h1
  · exact h2
  · exact h4
  · exact h5
  · exact hw)
theorem lwG_C {y : MethodName} {cc : ByteArray} {n : Nat} {ret : Option FieldType} (h5 : Cond.code y cc n ret ∈ lwG) : GoodIn lwG (Cond.code y cc n ret :: lwG) := lwG_in (fun w hw => by
  rcases List.mem_cons.mp hw with rfl | hw
  · exact h5
  · exact hw)
/-! the state of a world: ints by key, longs by key, rows of ints by key, rows of longs by key, and the key of the row that the reader reads -/
abbrev sT : Type := (Nat → Int32) × (Nat → Int64) × (Nat → Nat → Int32) × (Nat → Nat → Int64) × Nat
def vI (S : sT) (k : Nat) : Int32 := S.1 k
def vL (S : sT) (k : Nat) : Int64 := S.2.1 k
def vA (S : sT) (k : Nat) : Nat → Int32 := S.2.2.1 k
def vB (S : sT) (k : Nat) : Nat → Int64 := S.2.2.2.1 k
def vT (S : sT) : Nat := S.2.2.2.2
def uI (S : sT) (k : Nat) (x : Int32) : sT := (upd S.1 k x, S.2.1, S.2.2.1, S.2.2.2.1, S.2.2.2.2)
def uL (S : sT) (k : Nat) (x : Int64) : sT := (S.1, vp_updL S.2.1 k x, S.2.2.1, S.2.2.2.1, S.2.2.2.2)
def uA (S : sT) (k : Nat) (f : Nat → Int32) : sT := (S.1, S.2.1, va_up S.2.2.1 k f, S.2.2.2.1, S.2.2.2.2)
def uB (S : sT) (k : Nat) (f : Nat → Int64) : sT := (S.1, S.2.1, S.2.2.1, va_up S.2.2.2.1 k f, S.2.2.2.2)
def uT (S : sT) (t : Nat) : sT := (S.1, S.2.1, S.2.2.1, S.2.2.2.1, t)
/-! keys, addresses, what a method may change -/
def ky (ks : List Nat) (h : Nat → Nat) : Prop := ks.Nodup ∧ ∀ a ∈ ks, ∀ b ∈ ks, h a = h b → a = b
def aK (ks : List Nat) (h : Nat → Nat) (sz : Nat) : Nat → Prop := fun q => (∃ k ∈ ks, q = h k) ∨ sz ≤ q
theorem aK_le {ks : List Nat} {h : Nat → Nat} {a b : Nat} (hab : a ≤ b) : ∀ q, aK ks h b q → aK ks h a q := fun q hq => hq.elim Or.inl (fun h => Or.inr (Nat.le_trans hab h))
theorem wD {w : va_W} {ks : List Nat} {h : Nat → Nat} (hm : w.map Prod.fst = ks.map h) (hk : ky ks h) (sz : Nat) : va_D (aK ks h sz) w := by
  have at' : ∀ (i : Nat) (p : Nat × va_E), w[i]? = some p → ∃ k, ks[i]? = some k ∧ h k = p.1 := by
    intro i p hp
    have h1 : (w.map Prod.fst)[i]? = some p.1 := by rw [List.getElem?_map, hp]; rfl
    rw [hm, List.getElem?_map] at h1
    cases hi : ks[i]? with
    | none => rw [hi] at h1; cases h1
    | some k => rw [hi] at h1; exact ⟨k, rfl, Option.some.inj h1⟩
  refine ⟨fun i j p q hp hq e => ?_, fun k q hq => ?_⟩
  · obtain ⟨a, ha, ea⟩ := at' i p hp
    obtain ⟨b, hb, eb⟩ := at' j q hq
    have hab : a = b := hk.2 a (List.mem_of_getElem? ha) b (List.mem_of_getElem? hb) (by rw [ea, eb, e])
    subst hab
    have hi : i < ks.length := (List.getElem?_eq_some_iff.mp ha).1
    exact (List.getElem?_inj hi hk.1).mp (ha.trans hb.symm)
  · obtain ⟨a, ha, ea⟩ := at' k q hq
    exact Or.inl ⟨a, List.mem_of_getElem? ha, ea.symm⟩
theorem ks_set {α : Type} {ks : List Nat} (hn : ks.Nodup) {F G : Nat → α} {i k : Nat} (hi : ks[i]? = some k) (hG : ∀ j, j ≠ k → G j = F j) : (ks.map F).set i (G k) = ks.map G := by
  apply List.ext_getElem?
  intro j
  have hil : i < ks.length := (List.getElem?_eq_some_iff.mp hi).1
  rw [List.getElem?_set]
  by_cases hij : i = j
  · subst hij
    have hv := (List.getElem?_eq_some_iff.mp hi).2
    simp [hil, hv]
  · rw [if_neg hij]
    rw [List.getElem?_map, List.getElem?_map]
    cases hj : ks[j]? with
    | none => rfl
    | some k' =>
      have hne : k' ≠ k := by
        intro e
        subst e
        exact hij ((List.getElem?_inj hil hn).mp (hi.trans hj.symm))
      simp [hG k' hne]
/-! tables, classes of rows, private members of nest mates, constant rows -/
abbrev tysA (cA : Nat → ClassId) : List (ClassId × FieldType) := [(cA 0, .int), (cA 1, .long), (cA 2, .boolean), (cA 3, .object RX1), (cA 4, .array .int), (cA 5, .array .long)]
def nestF : List (String × Nat × String × String × String × String) := [(RX4, 94, "DreamTrain$Shelf", "cells", "[[I", "DreamTrain"), (RX4, 105, "DreamTrain$Shelf", "sizes", "[I", "DreamTrain"), (RX0, 43, "DreamTrain$Line", "kindOf", "[I", "DreamTrain"), (RX4, 140, "DreamTrain$Line", "kindOf", "[I", "DreamTrain"), (RX0, 42, "DreamTrain$Line", "bedOf", "[I", "DreamTrain"), (RX4, 208, "DreamTrain$Line", "bedOf", "[I", "DreamTrain"), (RX0, 46, "DreamTrain$Line", "supperOf", "[I", "DreamTrain"), (RX4, 146, "DreamTrain$Line", "supperOf", "[I", "DreamTrain"), (RX0, 25, "DreamTrain$Line", "sleepers", "I", "DreamTrain"), (RX2, 54, "DreamTrain$Line", "sleepers", "I", "DreamTrain"), (RX4, 129, "DreamTrain$Line", "sleepers", "I", "DreamTrain"), (RX0, 32, "DreamTrain$Line", "lastPlace", "I", "DreamTrain"), (RX2, 57, "DreamTrain$Line", "lastPlace", "I", "DreamTrain"), (RX4, 205, "DreamTrain$Line", "lastPlace", "I", "DreamTrain"), (RX4, 214, "DreamTrain$Line", "due", "I", "DreamTrain"), (RX4, 196, "DreamTrain$Line", "asleep", "I", "DreamTrain"), (RX0, 49, "DreamTrain$Line", "clock", "I", "DreamTrain"), (RX4, 162, "DreamTrain$Line", "clock", "I", "DreamTrain"), (RX0, 36, "DreamTrain$Line", "place", "I", "DreamTrain"), (RX4, 171, "DreamTrain$Line", "place", "I", "DreamTrain"), (RX4, 187, "DreamTrain$Line", "deeds", "I", "DreamTrain"), (RX4, 254, "DreamTrain$Journey", "dreamBits", "[J", "DreamTrain"), (RX4, 247, "DreamTrain$Journey", "bedOf", "[I", "DreamTrain"), (RX4, 202, "DreamTrain$Journey", "track", "[I", "DreamTrain"), (RX2, 68, "DreamTrain", "KIND_LETTERS", "[I", "DreamTrain")]
def nestM : List (String × Nat × MethodName × String) := [(RX4, 11, yX3_init, "DreamTrain"), (RX4, 23, yX1_init, "DreamTrain"), (RX4, 41, yX2_init, "DreamTrain"), (RX4, 48, yX0_init, "DreamTrain"), (RX4, 78, yX3_bears, "DreamTrain"), (RX3, 26, yX4_isBelow, "DreamTrain"), (RX4, 86, yX3_layOut, "DreamTrain"), (RX4, 108, yX3_holds, "DreamTrain"), (RX4, 121, yX2_readInto, "DreamTrain"), (RX2, 71, yX4_isBelow, "DreamTrain"), (RX2, 44, yX1_begin, "DreamTrain"), (RX2, 64, yX1_addSleeper, "DreamTrain"), (RX4, 125, yX1_become, "DreamTrain"), (RX4, 177, yX1_isAsleep, "DreamTrain"), (RX4, 180, yX1_isDreaming, "DreamTrain"), (RX1, 62, yX4_wouldDream, "DreamTrain"), (RX4, 165, yX1_hasRoomFor, "DreamTrain"), (RX4, 168, yX1_passMinute, "DreamTrain"), (RX4, 174, yX1_changeSupper, "DreamTrain"), (RX4, 183, yX1_wakeOrLull, "DreamTrain"), (RX4, 190, yX1_takeBackLatest, "DreamTrain"), (RX4, 193, yX0_setOut, "DreamTrain"), (RX0, 52, yX4_dreamBitsFrom, "DreamTrain"), (RX4, 199, yX0_ride, "DreamTrain"), (RX4, 211, yX0_minutesAt, "DreamTrain"), (RX0, 66, yX4_bit, "DreamTrain"), (RX4, 222, yX1_setCount, "DreamTrain"), (RX4, 322, yX1_dreamers, "DreamTrain"), (RX1, 69, yX4_bit, "DreamTrain"), (RX4, 325, yX3_howMany, "DreamTrain"), (RX3, 37, yX4_bit, "DreamTrain"), (RX4, 331, yX1_cheeseEaters, "DreamTrain"), (RX4, 300, yX3_stir, "DreamTrain")]
def kA (D : va_G) (cA : Nat → ClassId) (U : State) : Prop := va_K D vwCl (tysA cA) U ∧ (∀ q ∈ nestF, va_Nw (.fieldLinkNest q.1 q.2.1 q.2.2.1 q.2.2.2.1 q.2.2.2.2.1 q.2.2.2.2.2) U) ∧ ∀ q ∈ nestM, va_Nw (.methodLinkNest q.1 q.2.1 q.2.2.1 q.2.2.2) U
theorem kA.warm {D : va_G} {cA : Nat → ClassId} {s U : State} (hW : s.WarmedH U.vm) (h : kA D cA s) : kA D cA U := ⟨va_K.moved hW.alike h.1, fun q hq => va_Nw.warmF hW (h.2.1 q hq), fun q hq => va_Nw.warmM hW (h.2.2 q hq)⟩
theorem kA.call {D : va_G} {cA : Nat → ClassId} {U : State} (a : Array Value) (g : JFrame) (mk : MethodId) (h : kA D cA U) : kA D cA (U.calling g mk a) := ⟨va_K.moved (u := U) (U := U.calling g mk a) (Vm.Alike.refl U.vm) h.1, fun q hq => va_Nw.same rfl (rfl : U.vm = (U.calling g mk a).vm) (h.2.1 q hq), fun q hq => va_Nw.same rfl (rfl : U.vm = (U.calling g mk a).vm) (h.2.2 q hq)⟩
def kL (j : Nat) : Int32 := match j with
  | 0 => 115
  | 1 => 99
  | 2 => 98
  | 3 => 105
  | 4 => 103
  | _ => 108
def kU (j : Nat) : Int32 := match j with
  | 4 => 1
  | 5 => 2
  | _ => 0
def zz (b : Bool) (ks : List Nat) (h : Nat → Nat) (U : State) (H : Heap) : Prop := b = true → ∃ t1 t2 : Nat, (va_Z "DreamTrain" "KIND_LETTERS" "[I" (.ref t1) (aK ks h H.size) U H ∧ va_T .int t1 6 (fun j => .int (kL j)) (aK ks h H.size) U H) ∧ (va_Z "DreamTrain" "KIND_ABOVE" "[I" (.ref t2) (aK ks h H.size) U H ∧ va_T .int t2 6 (fun j => .int (kU j)) (aK ks h H.size) U H)
theorem zz.on {b : Bool} {ks : List Nat} {h : Nat → Nat} {s U : State} {H : Heap} {locs : List Loc} (hz : zz b ks h s s.heap) (hS : va_S (aK ks h s.heap.size) s.heap H locs) (hvm : s.vm.Alike U.vm) : zz b ks h U H := by
  intro hb
  obtain ⟨t1, t2, ⟨a1, a2⟩, a3, a4⟩ := hz hb
  exact ⟨t1, t2, ⟨((a1.kept hS.2.1).narrow (aK_le hS.1)).moved hvm, ((a2.kept hS.2.1).narrow (aK_le hS.1)).moved hvm⟩, ((a3.kept hS.2.1).narrow (aK_le hS.1)).moved hvm, ((a4.kept hS.2.1).narrow (aK_le hS.1)).moved hvm⟩
theorem zz.call {b : Bool} {ks : List Nat} {h : Nat → Nat} {U : State} (a : Array Value) (g : JFrame) (mk : MethodId) (hz : zz b ks h U U.heap) : zz b ks h (U.calling g mk a) (U.calling g mk a).heap := hz.on (U := U.calling g mk a) (locs := []) va_S.rf (Vm.Alike.refl U.vm)
/-! what a method begins with -/
def cx (p : Program) (s : State) (m : MethodId) (args : Array Value) (c : Code) (cc : ByteArray) (nL : Nat) (own : String) (D : va_G) (cA : Nat → ClassId) (b : Bool) (ks : List Nat) (h : Nat → Nat) : Prop :=
  CallFix p m c cc nL s args lwG own ∧ kA D cA s ∧ ky ks h ∧ zz b ks h s s.heap
def gP (D : va_G) (cA : Nat → ClassId) (b : Bool) (ks : List Nat) (h : Nat → Nat) (w : sT → va_W) (S : sT) (sz : Nat) (U : State) : Prop := U.heap.size = sz ∧ va_P D vwCl (w S) U.heap ∧ kA D cA U ∧ zz b ks h U U.heap
theorem gP.blind {D : va_G} {cA : Nat → ClassId} {b : Bool} {ks : List Nat} {h : Nat → Nat} {w : sT → va_W} {S : sT} {sz : Nat} {av : List Value} : FrameBlind (va_Pc av (gP D cA b ks h w S sz)) := fun a U g mk q => ⟨q.1, q.2.1, q.2.2.1, q.2.2.2.1.call a g mk, q.2.2.2.2.call a g mk⟩
theorem gP.go {D : va_G} {cA : Nat → ClassId} {b : Bool} {ks : List Nat} {h : Nat → Nat} {w : sT → va_W} {S : sT} {s : State} {H : Heap} {locs : List Loc} {av : List Value} (hK : kA D cA s) (hz : zz b ks h s s.heap) (hS : va_S (aK ks h s.heap.size) s.heap H locs) (hP : va_P D vwCl (w S) H) : ∀ U : State, U.heap = H → s.WarmedH U.vm → va_Pc av (gP D cA b ks h w S H.size) av.toArray U := fun U hU hW => ⟨rfl, by rw [hU], by rw [hU]; exact hP, hK.warm hW, by rw [hU]; exact hz.on hS hW.alike⟩
/-! how a method ends -/
abbrev bo (r : Int32) : Prop := narrow .boolean (.int r) = .int r
abbrev wB (D : va_G) (w : sT → va_W) (S : sT) (t : State) : Prop := va_P D vwCl (w S) t.heap
def rtI (p : Program) (l : Launch) (e : Env) (R : Room) (s : State) (m : MethodId) (args : Array Value) (below : List Frame) (meth : Method) (c : Code) (cc : ByteArray) (Z : State → Prop) (D : va_G) (w : sT → va_W) (A : Nat → Prop) (Q : Int32 → sT → Prop) : Prop :=
  ∀ (r : Int32) (S : sT) (H : Heap) (locs : List Loc) (ls : Array Slot) (pc : Nat), Q r S → va_P D vwCl (w S) H → va_S A s.heap H locs → decode cc pc = .ok (.ireturn, 1) → W p l e R s m args below meth c H locs 0 0 Z (F0 m pc ls [.int r])
def rtZ (p : Program) (l : Launch) (e : Env) (R : Room) (s : State) (m : MethodId) (args : Array Value) (below : List Frame) (meth : Method) (c : Code) (cc : ByteArray) (Z : State → Prop) (D : va_G) (w : sT → va_W) (A : Nat → Prop) (Q : Int32 → sT → Prop) : Prop :=
  ∀ (r : Int32) (S : sT) (H : Heap) (locs : List Loc) (ls : Array Slot) (pc : Nat), bo r → Q r S → va_P D vwCl (w S) H → va_S A s.heap H locs → decode cc pc = .ok (.ireturn, 1) → W p l e R s m args below meth c H locs 0 0 Z (F0 m pc ls [.int r])
def rtL (p : Program) (l : Launch) (e : Env) (R : Room) (s : State) (m : MethodId) (args : Array Value) (below : List Frame) (meth : Method) (c : Code) (cc : ByteArray) (Z : State → Prop) (D : va_G) (w : sT → va_W) (A : Nat → Prop) (Q : Int64 → sT → Prop) : Prop :=
  ∀ (r : Int64) (S : sT) (H : Heap) (locs : List Loc) (ls : Array Slot) (pc : Nat), Q r S → va_P D vwCl (w S) H → va_S A s.heap H locs → decode cc pc = .ok (.lreturn, 1) → W p l e R s m args below meth c H locs 0 0 Z (F0 m pc ls [.long r])
def rtV (p : Program) (l : Launch) (e : Env) (R : Room) (s : State) (m : MethodId) (args : Array Value) (below : List Frame) (meth : Method) (c : Code) (cc : ByteArray) (Z : State → Prop) (D : va_G) (w : sT → va_W) (A : Nat → Prop) (Q : sT → Prop) : Prop :=
  ∀ (S : sT) (H : Heap) (locs : List Loc) (ls : Array Slot) (pc : Nat), Q S → va_P D vwCl (w S) H → va_S A s.heap H locs → decode cc pc = .ok (.return_, 1) → W p l e R s m args below meth c H locs 0 0 Z (F0 m pc ls [])
/-! contracts out of walks -/
abbrev wsU (y : MethodName) (cc : ByteArray) (maxL : Nat) (ret : Option FieldType) : List Cond := Cond.code y cc maxL ret :: lwG
section MK
variable {l : Launch} {y : MethodName} {cc : ByteArray} {maxL : Nat} {rm : Room} {D : va_G} {cA : Nat → ClassId} {b : Bool} {ks : List Nat} {h : Nat → Nat} {w : sT → va_W} {S : sT} {sz : Nat} {av : List Value}
theorem mk_cx {ret : Option FieldType} {p : Program} {e : Env} {s s₁ : State} {m : MethodId} {args : Array Value} {below : List Frame} {meth : Method} {c : Code} (hk : ky ks h) (B : BodyLoose p l y (headSpec (wsU y cc maxL ret) rm) cc maxL ret e s m args below meth c s₁) (hml : c.maxLocals = maxL) (hK : kA D cA s) (hz : zz b ks h s s.heap) : cx p s m args c cc maxL y.cls D cA b ks h := by
  have hts := atoms_spec (ws := wsU y cc maxL ret) B.pre
  exact ⟨⟨B.exec, B.bytes, hml, findClass_of_methodNamed B.named, fun w hw => hts w (List.mem_cons_of_mem _ hw)⟩, hK, hk, hz⟩
theorem mk_i {Q : Int32 → sT → Prop} (hy : plainName y.cls = true) (hk : ky ks h) (hlen : (lg_sl av).length ≤ maxL)
    (body : ∀ (p : Program) (e : Env) (s : State) (m : MethodId) (below : List Frame) (meth : Method) (c : Code) (Z : State → Prop) (ls : Array Slot), cx p s m av.toArray c cc maxL y.cls D cA b ks h → rtI p l e rm s m av.toArray below meth c cc Z D w (aK ks h s.heap.size) Q → va_P D vwCl (w S) s.heap → va_S (aK ks h s.heap.size) s.heap s.heap [] → lv_has ls maxL (lv_args 0 av) → W p l e rm s m av.toArray below meth c s.heap [] 0 0 Z (F0 m 0 ls [])) :
    Met l y (wsU y cc maxL (some .int)) rm (va_Pc av (gP D cA b ks h w S sz)) (va_Qi Q (wB D w) (aK ks h sz)) 0 0 (aK ks h sz) := by
  refine Met.ofW (cc := cc) (maxL := maxL) (ret := some .int) hy rfl ?_
  intro p e s m args below meth c s₁ B hml hv
  obtain ⟨rfl, hsz, hP, hK, hz⟩ := hv
  subst hsz
  have hl := lv_entry av (n := maxL) hlen
  rw [lg_entry_eq]
  generalize (lg_sl av ++ List.replicate (maxL - (lg_sl av).length) Slot.unset).toArray = ls at hl ⊢
  have hlocks := B.notSynchronized
  exact body p e s m below meth c _ ls (mk_cx hk B hml hK hz) (fun r S H locs ls pc hq hP hS hd => W.iret B.exec B.bytes B.returns (fun t ht hW => ⟨⟨r, S, rfl, hq, by show va_P D vwCl (w S) t.heap; rw [ht]; exact hP⟩, hS.F ht⟩) hS.2.2 hd) hP va_S.rf hl
theorem mk_z {Q : Int32 → sT → Prop} (hy : plainName y.cls = true) (hk : ky ks h) (hlen : (lg_sl av).length ≤ maxL)
    (body : ∀ (p : Program) (e : Env) (s : State) (m : MethodId) (below : List Frame) (meth : Method) (c : Code) (Z : State → Prop) (ls : Array Slot), cx p s m av.toArray c cc maxL y.cls D cA b ks h → rtZ p l e rm s m av.toArray below meth c cc Z D w (aK ks h s.heap.size) Q → va_P D vwCl (w S) s.heap → va_S (aK ks h s.heap.size) s.heap s.heap [] → lv_has ls maxL (lv_args 0 av) → W p l e rm s m av.toArray below meth c s.heap [] 0 0 Z (F0 m 0 ls [])) :
    Met l y (wsU y cc maxL (some .boolean)) rm (va_Pc av (gP D cA b ks h w S sz)) (va_Qi Q (wB D w) (aK ks h sz)) 0 0 (aK ks h sz) := by
  refine Met.ofW (cc := cc) (maxL := maxL) (ret := some .boolean) hy rfl ?_
  intro p e s m args below meth c s₁ B hml hv
  obtain ⟨rfl, hsz, hP, hK, hz⟩ := hv
  subst hsz
  have hl := lv_entry av (n := maxL) hlen
  rw [lg_entry_eq]
  generalize (lg_sl av ++ List.replicate (maxL - (lg_sl av).length) Slot.unset).toArray = ls at hl ⊢
  have hlocks := B.notSynchronized
  exact body p e s m below meth c _ ls (mk_cx hk B hml hK hz) (fun r S H locs ls pc hbo hq hP hS hd => W.zret B.exec B.bytes B.returns hbo (fun t ht hW => ⟨⟨r, S, rfl, hq, by show va_P D vwCl (w S) t.heap; rw [ht]; exact hP⟩, hS.F ht⟩) hS.2.2 hd) hP va_S.rf hl
theorem mk_l {Q : Int64 → sT → Prop} (hy : plainName y.cls = true) (hk : ky ks h) (hlen : (lg_sl av).length ≤ maxL)
    (body : ∀ (p : Program) (e : Env) (s : State) (m : MethodId) (below : List Frame) (meth : Method) (c : Code) (Z : State → Prop) (ls : Array Slot), cx p s m av.toArray c cc maxL y.cls D cA b ks h → rtL p l e rm s m av.toArray below meth c cc Z D w (aK ks h s.heap.size) Q → va_P D vwCl (w S) s.heap → va_S (aK ks h s.heap.size) s.heap s.heap [] → lv_has ls maxL (lv_args 0 av) → W p l e rm s m av.toArray below meth c s.heap [] 0 0 Z (F0 m 0 ls [])) :
    Met l y (wsU y cc maxL (some .long)) rm (va_Pc av (gP D cA b ks h w S sz)) (va_Ql Q (wB D w) (aK ks h sz)) 0 0 (aK ks h sz) := by
  refine Met.ofW (cc := cc) (maxL := maxL) (ret := some .long) hy rfl ?_
  intro p e s m args below meth c s₁ B hml hv
  obtain ⟨rfl, hsz, hP, hK, hz⟩ := hv
  subst hsz
  have hl := lv_entry av (n := maxL) hlen
  rw [lg_entry_eq]
  generalize (lg_sl av ++ List.replicate (maxL - (lg_sl av).length) Slot.unset).toArray = ls at hl ⊢
  have hlocks := B.notSynchronized
  exact body p e s m below meth c _ ls (mk_cx hk B hml hK hz) (fun r S H locs ls pc hq hP hS hd => W.lret B.exec B.bytes B.returns (fun t ht hW => ⟨⟨r, S, rfl, hq, by show va_P D vwCl (w S) t.heap; rw [ht]; exact hP⟩, hS.F ht⟩) hS.2.2 hd) hP va_S.rf hl
theorem mk_v {Q : sT → Prop} (hy : plainName y.cls = true) (hk : ky ks h) (hlen : (lg_sl av).length ≤ maxL)
    (body : ∀ (p : Program) (e : Env) (s : State) (m : MethodId) (below : List Frame) (meth : Method) (c : Code) (Z : State → Prop) (ls : Array Slot), cx p s m av.toArray c cc maxL y.cls D cA b ks h → rtV p l e rm s m av.toArray below meth c cc Z D w (aK ks h s.heap.size) Q → va_P D vwCl (w S) s.heap → va_S (aK ks h s.heap.size) s.heap s.heap [] → lv_has ls maxL (lv_args 0 av) → W p l e rm s m av.toArray below meth c s.heap [] 0 0 Z (F0 m 0 ls [])) :
    Met l y (wsU y cc maxL none) rm (va_Pc av (gP D cA b ks h w S sz)) (va_Qv Q (wB D w) (aK ks h sz)) 0 0 (aK ks h sz) := by
  refine Met.ofW (cc := cc) (maxL := maxL) (ret := none) hy rfl ?_
  intro p e s m args below meth c s₁ B hml hv
  obtain ⟨rfl, hsz, hP, hK, hz⟩ := hv
  subst hsz
  have hl := lv_entry av (n := maxL) hlen
  rw [lg_entry_eq]
  generalize (lg_sl av ++ List.replicate (maxL - (lg_sl av).length) Slot.unset).toArray = ls at hl ⊢
  have hlocks := B.notSynchronized
  exact body p e s m below meth c _ ls (mk_cx hk B hml hK hz) (fun S H locs ls pc hq hP hS hd => W.vret B.exec B.bytes B.returns (fun t ht hW => ⟨⟨S, rfl, hq, by show va_P D vwCl (w S) t.heap; rw [ht]; exact hP⟩, hS.F ht⟩) hS.2.2 hd) hP va_S.rf hl
end MK
/-! calls: the callee has the same world -/
section CL
variable {p : Program} {l : Launch} {e : Env} {R : Room} {s : State} {m : MethodId} {args : Array Value} {below : List Frame} {meth : Method} {c : Code} {H : Heap} {locs : List Loc} {Z : State → Prop}
variable {cc bytes : ByteArray} {nL maxL index n pc : Nat} {own C host : String} {y : MethodName} {ret : Option FieldType} {rm : Room} {D : va_G} {cA : Nat → ClassId} {b : Bool} {ks : List Nat} {h : Nat → Nat} {w : sT → va_W} {S : sT} {b0 q0 ci N : Nat} {T : u_T} {fs As rest st : List Value} {ls : Array Slot} {cells slots : Nat}
theorem cl_Vi {Q : Int32 → sT → Prop} (C0 : cx p s m args c cc nL own D cA b ks h) (hP : va_P D vwCl (w S) H) (hS : va_S (aK ks h s.heap.size) s.heap H locs)
    (hM : Met l y (wsU y bytes maxL ret) rm (va_Pc (.ref b0 :: As) (gP D cA b ks h w S H.size)) (va_Qi Q (wB D w) (aK ks h H.size)) 0 0 (aK ks h H.size)) (hG : GoodIn lwG (wsV own index C y (wsU y bytes maxL ret))) (hd : y.cls = C ∧ y.cls ≠ "java/lang/invoke/MethodHandle" ∧ y.cls ≠ "java/lang/invoke/VarHandle" ∧ (parseMethodDescriptor y.desc).map (fun d => d.parameters.length) = some n) (he : (w S)[q0]? = some (b0, .inr (ci, fs))) (hc : vwCl[ci]? = some (C, T, N)) (hn : As.length = n) (hst : st = As.reverse ++ .ref b0 :: rest) (hrs : (rest.map fun v => v.category).sum ≤ 8) (hrm : rm.cells = 0 ∧ rm.slots = 0) (hR : rm.frames + 1 ≤ R.frames ∧ 8 + (maxL + 11) + rm.locals ≤ R.locals) (hdg : decode cc pc = .ok (.invokevirtual index, 3)) (hls : ls.size = nL) (hcs : cells ≤ R.cells ∧ slots ≤ R.slots)
    (kk : ∀ (r : Int32) (S1 : sT) (H1 : Heap) (locs1 : List Loc), Q r S1 → va_P D vwCl (w S1) H1 → va_S (aK ks h s.heap.size) s.heap H1 locs1 → W p l e R s m args below meth c H1 locs1 cells slots Z (F0 m (pc + 3) ls (.int r :: rest))) : W p l e R s m args below meth c H locs cells slots Z (F0 m pc ls st) := by
  obtain ⟨hF, hK, hk, hz⟩ := C0
  subst hst
  have hFr : ∀ q, aK ks h H.size q → aK ks h s.heap.size q := aK_le hS.1
  exact va_calli (va_runV (As := As) (rest := rest) hF hM (cwV n hF.2.2.2.2 hG rfl hrm.1 hrm.2 hd hR) ⟨gP.blind, va_recv hK.1 hP hc he, gP.go hK hz hS hP⟩ rfl hn hls rfl (lv_room hrs) hdg hcs) hS (fun q _ h => hFr q h) hFr (fun r u t H1 locs1 ht hvm hw hB hz1 hk1 hS1 => kk r u H1 locs1 hw (by have h9 : va_P D vwCl (w u) t.heap := hB; rw [ht] at h9; exact h9) hS1)
theorem cl_Vl {Q : Int64 → sT → Prop} (C0 : cx p s m args c cc nL own D cA b ks h) (hP : va_P D vwCl (w S) H) (hS : va_S (aK ks h s.heap.size) s.heap H locs)
    (hM : Met l y (wsU y bytes maxL ret) rm (va_Pc (.ref b0 :: As) (gP D cA b ks h w S H.size)) (va_Ql Q (wB D w) (aK ks h H.size)) 0 0 (aK ks h H.size)) (hG : GoodIn lwG (wsV own index C y (wsU y bytes maxL ret))) (hd : y.cls = C ∧ y.cls ≠ "java/lang/invoke/MethodHandle" ∧ y.cls ≠ "java/lang/invoke/VarHandle" ∧ (parseMethodDescriptor y.desc).map (fun d => d.parameters.length) = some n) (he : (w S)[q0]? = some (b0, .inr (ci, fs))) (hc : vwCl[ci]? = some (C, T, N)) (hn : As.length = n) (hst : st = As.reverse ++ .ref b0 :: rest) (hrs : (rest.map fun v => v.category).sum ≤ 8) (hrm : rm.cells = 0 ∧ rm.slots = 0) (hR : rm.frames + 1 ≤ R.frames ∧ 8 + (maxL + 11) + rm.locals ≤ R.locals) (hdg : decode cc pc = .ok (.invokevirtual index, 3)) (hls : ls.size = nL) (hcs : cells ≤ R.cells ∧ slots ≤ R.slots)
    (kk : ∀ (r : Int64) (S1 : sT) (H1 : Heap) (locs1 : List Loc), Q r S1 → va_P D vwCl (w S1) H1 → va_S (aK ks h s.heap.size) s.heap H1 locs1 → W p l e R s m args below meth c H1 locs1 cells slots Z (F0 m (pc + 3) ls (.long r :: rest))) : W p l e R s m args below meth c H locs cells slots Z (F0 m pc ls st) := by
  obtain ⟨hF, hK, hk, hz⟩ := C0
  subst hst
  have hFr : ∀ q, aK ks h H.size q → aK ks h s.heap.size q := aK_le hS.1
  exact va_calll (va_runV (As := As) (rest := rest) hF hM (cwV n hF.2.2.2.2 hG rfl hrm.1 hrm.2 hd hR) ⟨gP.blind, va_recv hK.1 hP hc he, gP.go hK hz hS hP⟩ rfl hn hls rfl (lv_room hrs) hdg hcs) hS (fun q _ h => hFr q h) hFr (fun r u t H1 locs1 ht hvm hw hB hz1 hk1 hS1 => kk r u H1 locs1 hw (by have h9 : va_P D vwCl (w u) t.heap := hB; rw [ht] at h9; exact h9) hS1)
theorem cl_Vv {Q : sT → Prop} (C0 : cx p s m args c cc nL own D cA b ks h) (hP : va_P D vwCl (w S) H) (hS : va_S (aK ks h s.heap.size) s.heap H locs)
    (hM : Met l y (wsU y bytes maxL ret) rm (va_Pc (.ref b0 :: As) (gP D cA b ks h w S H.size)) (va_Qv Q (wB D w) (aK ks h H.size)) 0 0 (aK ks h H.size)) (hG : GoodIn lwG (wsV own index C y (wsU y bytes maxL ret))) (hd : y.cls = C ∧ y.cls ≠ "java/lang/invoke/MethodHandle" ∧ y.cls ≠ "java/lang/invoke/VarHandle" ∧ (parseMethodDescriptor y.desc).map (fun d => d.parameters.length) = some n) (he : (w S)[q0]? = some (b0, .inr (ci, fs))) (hc : vwCl[ci]? = some (C, T, N)) (hn : As.length = n) (hst : st = As.reverse ++ .ref b0 :: rest) (hrs : (rest.map fun v => v.category).sum ≤ 8) (hrm : rm.cells = 0 ∧ rm.slots = 0) (hR : rm.frames + 1 ≤ R.frames ∧ 8 + (maxL + 11) + rm.locals ≤ R.locals) (hdg : decode cc pc = .ok (.invokevirtual index, 3)) (hls : ls.size = nL) (hcs : cells ≤ R.cells ∧ slots ≤ R.slots)
    (kk : ∀ (S1 : sT) (H1 : Heap) (locs1 : List Loc), Q S1 → va_P D vwCl (w S1) H1 → va_S (aK ks h s.heap.size) s.heap H1 locs1 → W p l e R s m args below meth c H1 locs1 cells slots Z (F0 m (pc + 3) ls rest)) : W p l e R s m args below meth c H locs cells slots Z (F0 m pc ls st) := by
  obtain ⟨hF, hK, hk, hz⟩ := C0
  subst hst
  have hFr : ∀ q, aK ks h H.size q → aK ks h s.heap.size q := aK_le hS.1
  exact va_callv (va_runV (As := As) (rest := rest) hF hM (cwV n hF.2.2.2.2 hG rfl hrm.1 hrm.2 hd hR) ⟨gP.blind, va_recv hK.1 hP hc he, gP.go hK hz hS hP⟩ rfl hn hls rfl (lv_room hrs) hdg hcs) hS (fun q _ h => hFr q h) hFr (fun u t H1 locs1 ht hvm hw hB hz1 hk1 hS1 => kk u H1 locs1 hw (by have h9 : va_P D vwCl (w u) t.heap := hB; rw [ht] at h9; exact h9) hS1)
theorem cl_VNi {Q : Int32 → sT → Prop} (C0 : cx p s m args c cc nL own D cA b ks h) (hP : va_P D vwCl (w S) H) (hS : va_S (aK ks h s.heap.size) s.heap H locs)
    (hM : Met l y (wsU y bytes maxL ret) rm (va_Pc (.ref b0 :: As) (gP D cA b ks h w S H.size)) (va_Qi Q (wB D w) (aK ks h H.size)) 0 0 (aK ks h H.size)) (hG : GoodIn lwG (wsU y bytes maxL ret)) (hq : (own, index, y, host) ∈ nestM) (hi1 : Cond.initialized y.cls ∈ lwG) (hi2 : Cond.instanceMethod y ∈ lwG) (hi3 : Cond.selects C y y ∈ lwG) (hd : y.cls ≠ "java/lang/invoke/MethodHandle" ∧ y.cls ≠ "java/lang/invoke/VarHandle" ∧ (parseMethodDescriptor y.desc).map (fun d => d.parameters.length) = some n) (he : (w S)[q0]? = some (b0, .inr (ci, fs))) (hc : vwCl[ci]? = some (C, T, N)) (hn : As.length = n) (hst : st = As.reverse ++ .ref b0 :: rest) (hrs : (rest.map fun v => v.category).sum ≤ 8) (hrm : rm.cells = 0 ∧ rm.slots = 0) (hR : rm.frames + 1 ≤ R.frames ∧ 8 + (maxL + 11) + rm.locals ≤ R.locals) (hdg : decode cc pc = .ok (.invokevirtual index, 3)) (hls : ls.size = nL) (hcs : cells ≤ R.cells ∧ slots ≤ R.slots)
    (kk : ∀ (r : Int32) (S1 : sT) (H1 : Heap) (locs1 : List Loc), Q r S1 → va_P D vwCl (w S1) H1 → va_S (aK ks h s.heap.size) s.heap H1 locs1 → W p l e R s m args below meth c H1 locs1 cells slots Z (F0 m (pc + 3) ls (.int r :: rest))) : W p l e R s m args below meth c H locs cells slots Z (F0 m pc ls st) := by
  obtain ⟨hF, hK, hk, hz⟩ := C0
  subst hst
  have hFr : ∀ q, aK ks h H.size q → aK ks h s.heap.size q := aK_le hS.1
  exact va_calli (va_runVN (As := As) (rest := rest) hF hM ⟨va_cnB n hF.2.2.2.2 hG rfl hrm.1 hrm.2 (hK.2.2 _ hq) (hF.2.2.2.2 _ hi1) hd hR, hF.2.2.2.2 _ hi2, hF.2.2.2.2 _ hi3⟩ ⟨gP.blind, va_recv hK.1 hP hc he, gP.go hK hz hS hP⟩ rfl hn hls rfl (lv_room hrs) hdg hcs) hS (fun q _ h => hFr q h) hFr (fun r u t H1 locs1 ht hvm hw hB hz1 hk1 hS1 => kk r u H1 locs1 hw (by have h9 : va_P D vwCl (w u) t.heap := hB; rw [ht] at h9; exact h9) hS1)
theorem cl_VNl {Q : Int64 → sT → Prop} (C0 : cx p s m args c cc nL own D cA b ks h) (hP : va_P D vwCl (w S) H) (hS : va_S (aK ks h s.heap.size) s.heap H locs)
    (hM : Met l y (wsU y bytes maxL ret) rm (va_Pc (.ref b0 :: As) (gP D cA b ks h w S H.size)) (va_Ql Q (wB D w) (aK ks h H.size)) 0 0 (aK ks h H.size)) (hG : GoodIn lwG (wsU y bytes maxL ret)) (hq : (own, index, y, host) ∈ nestM) (hi1 : Cond.initialized y.cls ∈ lwG) (hi2 : Cond.instanceMethod y ∈ lwG) (hi3 : Cond.selects C y y ∈ lwG) (hd : y.cls ≠ "java/lang/invoke/MethodHandle" ∧ y.cls ≠ "java/lang/invoke/VarHandle" ∧ (parseMethodDescriptor y.desc).map (fun d => d.parameters.length) = some n) (he : (w S)[q0]? = some (b0, .inr (ci, fs))) (hc : vwCl[ci]? = some (C, T, N)) (hn : As.length = n) (hst : st = As.reverse ++ .ref b0 :: rest) (hrs : (rest.map fun v => v.category).sum ≤ 8) (hrm : rm.cells = 0 ∧ rm.slots = 0) (hR : rm.frames + 1 ≤ R.frames ∧ 8 + (maxL + 11) + rm.locals ≤ R.locals) (hdg : decode cc pc = .ok (.invokevirtual index, 3)) (hls : ls.size = nL) (hcs : cells ≤ R.cells ∧ slots ≤ R.slots)
    (kk : ∀ (r : Int64) (S1 : sT) (H1 : Heap) (locs1 : List Loc), Q r S1 → va_P D vwCl (w S1) H1 → va_S (aK ks h s.heap.size) s.heap H1 locs1 → W p l e R s m args below meth c H1 locs1 cells slots Z (F0 m (pc + 3) ls (.long r :: rest))) : W p l e R s m args below meth c H locs cells slots Z (F0 m pc ls st) := by
  obtain ⟨hF, hK, hk, hz⟩ := C0
  subst hst
  have hFr : ∀ q, aK ks h H.size q → aK ks h s.heap.size q := aK_le hS.1
  exact va_calll (va_runVN (As := As) (rest := rest) hF hM ⟨va_cnB n hF.2.2.2.2 hG rfl hrm.1 hrm.2 (hK.2.2 _ hq) (hF.2.2.2.2 _ hi1) hd hR, hF.2.2.2.2 _ hi2, hF.2.2.2.2 _ hi3⟩ ⟨gP.blind, va_recv hK.1 hP hc he, gP.go hK hz hS hP⟩ rfl hn hls rfl (lv_room hrs) hdg hcs) hS (fun q _ h => hFr q h) hFr (fun r u t H1 locs1 ht hvm hw hB hz1 hk1 hS1 => kk r u H1 locs1 hw (by have h9 : va_P D vwCl (w u) t.heap := hB; rw [ht] at h9; exact h9) hS1)
theorem cl_VNv {Q : sT → Prop} (C0 : cx p s m args c cc nL own D cA b ks h) (hP : va_P D vwCl (w S) H) (hS : va_S (aK ks h s.heap.size) s.heap H locs)
    (hM : Met l y (wsU y bytes maxL ret) rm (va_Pc (.ref b0 :: As) (gP D cA b ks h w S H.size)) (va_Qv Q (wB D w) (aK ks h H.size)) 0 0 (aK ks h H.size)) (hG : GoodIn lwG (wsU y bytes maxL ret)) (hq : (own, index, y, host) ∈ nestM) (hi1 : Cond.initialized y.cls ∈ lwG) (hi2 : Cond.instanceMethod y ∈ lwG) (hi3 : Cond.selects C y y ∈ lwG) (hd : y.cls ≠ "java/lang/invoke/MethodHandle" ∧ y.cls ≠ "java/lang/invoke/VarHandle" ∧ (parseMethodDescriptor y.desc).map (fun d => d.parameters.length) = some n) (he : (w S)[q0]? = some (b0, .inr (ci, fs))) (hc : vwCl[ci]? = some (C, T, N)) (hn : As.length = n) (hst : st = As.reverse ++ .ref b0 :: rest) (hrs : (rest.map fun v => v.category).sum ≤ 8) (hrm : rm.cells = 0 ∧ rm.slots = 0) (hR : rm.frames + 1 ≤ R.frames ∧ 8 + (maxL + 11) + rm.locals ≤ R.locals) (hdg : decode cc pc = .ok (.invokevirtual index, 3)) (hls : ls.size = nL) (hcs : cells ≤ R.cells ∧ slots ≤ R.slots)
    (kk : ∀ (S1 : sT) (H1 : Heap) (locs1 : List Loc), Q S1 → va_P D vwCl (w S1) H1 → va_S (aK ks h s.heap.size) s.heap H1 locs1 → W p l e R s m args below meth c H1 locs1 cells slots Z (F0 m (pc + 3) ls rest)) : W p l e R s m args below meth c H locs cells slots Z (F0 m pc ls st) := by
  obtain ⟨hF, hK, hk, hz⟩ := C0
  subst hst
  have hFr : ∀ q, aK ks h H.size q → aK ks h s.heap.size q := aK_le hS.1
  exact va_callv (va_runVN (As := As) (rest := rest) hF hM ⟨va_cnB n hF.2.2.2.2 hG rfl hrm.1 hrm.2 (hK.2.2 _ hq) (hF.2.2.2.2 _ hi1) hd hR, hF.2.2.2.2 _ hi2, hF.2.2.2.2 _ hi3⟩ ⟨gP.blind, va_recv hK.1 hP hc he, gP.go hK hz hS hP⟩ rfl hn hls rfl (lv_room hrs) hdg hcs) hS (fun q _ h => hFr q h) hFr (fun u t H1 locs1 ht hvm hw hB hz1 hk1 hS1 => kk u H1 locs1 hw (by have h9 : va_P D vwCl (w u) t.heap := hB; rw [ht] at h9; exact h9) hS1)
theorem cl_Si {Q : Int32 → sT → Prop} (C0 : cx p s m args c cc nL own D cA b ks h) (hP : va_P D vwCl (w S) H) (hS : va_S (aK ks h s.heap.size) s.heap H locs)
    (hM : Met l y (wsU y bytes maxL ret) rm (va_Pc (As) (gP D cA b ks h w S H.size)) (va_Qi Q (wB D w) (aK ks h H.size)) 0 0 (aK ks h H.size)) (hG : GoodIn lwG (va_wsS own index y (wsU y bytes maxL ret))) (hd : y.cls ≠ "java/lang/invoke/MethodHandle" ∧ y.cls ≠ "java/lang/invoke/VarHandle" ∧ (parseMethodDescriptor y.desc).map (fun d => d.parameters.length) = some n) (hn : As.length = n) (hst : st = As.reverse ++ rest) (hrs : (rest.map fun v => v.category).sum ≤ 8) (hrm : rm.cells = 0 ∧ rm.slots = 0) (hR : rm.frames + 1 ≤ R.frames ∧ 8 + (maxL + 11) + rm.locals ≤ R.locals) (hdg : decode cc pc = .ok (.invokestatic index, 3)) (hls : ls.size = nL) (hcs : cells ≤ R.cells ∧ slots ≤ R.slots)
    (kk : ∀ (r : Int32) (S1 : sT) (H1 : Heap) (locs1 : List Loc), Q r S1 → va_P D vwCl (w S1) H1 → va_S (aK ks h s.heap.size) s.heap H1 locs1 → W p l e R s m args below meth c H1 locs1 cells slots Z (F0 m (pc + 3) ls (.int r :: rest))) : W p l e R s m args below meth c H locs cells slots Z (F0 m pc ls st) := by
  obtain ⟨hF, hK, hk, hz⟩ := C0
  subst hst
  have hFr : ∀ q, aK ks h H.size q → aK ks h s.heap.size q := aK_le hS.1
  exact va_calli (va_runS (As := As) (rest := rest) hF hM (va_cwS n hF.2.2.2.2 hG rfl hrm.1 hrm.2 hd hR) ⟨gP.blind, gP.go hK hz hS hP⟩ rfl hn hls rfl (lv_room hrs) hdg hcs) hS (fun q _ h => hFr q h) hFr (fun r u t H1 locs1 ht hvm hw hB hz1 hk1 hS1 => kk r u H1 locs1 hw (by have h9 : va_P D vwCl (w u) t.heap := hB; rw [ht] at h9; exact h9) hS1)
theorem cl_Sl {Q : Int64 → sT → Prop} (C0 : cx p s m args c cc nL own D cA b ks h) (hP : va_P D vwCl (w S) H) (hS : va_S (aK ks h s.heap.size) s.heap H locs)
    (hM : Met l y (wsU y bytes maxL ret) rm (va_Pc (As) (gP D cA b ks h w S H.size)) (va_Ql Q (wB D w) (aK ks h H.size)) 0 0 (aK ks h H.size)) (hG : GoodIn lwG (va_wsS own index y (wsU y bytes maxL ret))) (hd : y.cls ≠ "java/lang/invoke/MethodHandle" ∧ y.cls ≠ "java/lang/invoke/VarHandle" ∧ (parseMethodDescriptor y.desc).map (fun d => d.parameters.length) = some n) (hn : As.length = n) (hst : st = As.reverse ++ rest) (hrs : (rest.map fun v => v.category).sum ≤ 8) (hrm : rm.cells = 0 ∧ rm.slots = 0) (hR : rm.frames + 1 ≤ R.frames ∧ 8 + (maxL + 11) + rm.locals ≤ R.locals) (hdg : decode cc pc = .ok (.invokestatic index, 3)) (hls : ls.size = nL) (hcs : cells ≤ R.cells ∧ slots ≤ R.slots)
    (kk : ∀ (r : Int64) (S1 : sT) (H1 : Heap) (locs1 : List Loc), Q r S1 → va_P D vwCl (w S1) H1 → va_S (aK ks h s.heap.size) s.heap H1 locs1 → W p l e R s m args below meth c H1 locs1 cells slots Z (F0 m (pc + 3) ls (.long r :: rest))) : W p l e R s m args below meth c H locs cells slots Z (F0 m pc ls st) := by
  obtain ⟨hF, hK, hk, hz⟩ := C0
  subst hst
  have hFr : ∀ q, aK ks h H.size q → aK ks h s.heap.size q := aK_le hS.1
  exact va_calll (va_runS (As := As) (rest := rest) hF hM (va_cwS n hF.2.2.2.2 hG rfl hrm.1 hrm.2 hd hR) ⟨gP.blind, gP.go hK hz hS hP⟩ rfl hn hls rfl (lv_room hrs) hdg hcs) hS (fun q _ h => hFr q h) hFr (fun r u t H1 locs1 ht hvm hw hB hz1 hk1 hS1 => kk r u H1 locs1 hw (by have h9 : va_P D vwCl (w u) t.heap := hB; rw [ht] at h9; exact h9) hS1)
theorem cl_Sv {Q : sT → Prop} (C0 : cx p s m args c cc nL own D cA b ks h) (hP : va_P D vwCl (w S) H) (hS : va_S (aK ks h s.heap.size) s.heap H locs)
    (hM : Met l y (wsU y bytes maxL ret) rm (va_Pc (As) (gP D cA b ks h w S H.size)) (va_Qv Q (wB D w) (aK ks h H.size)) 0 0 (aK ks h H.size)) (hG : GoodIn lwG (va_wsS own index y (wsU y bytes maxL ret))) (hd : y.cls ≠ "java/lang/invoke/MethodHandle" ∧ y.cls ≠ "java/lang/invoke/VarHandle" ∧ (parseMethodDescriptor y.desc).map (fun d => d.parameters.length) = some n) (hn : As.length = n) (hst : st = As.reverse ++ rest) (hrs : (rest.map fun v => v.category).sum ≤ 8) (hrm : rm.cells = 0 ∧ rm.slots = 0) (hR : rm.frames + 1 ≤ R.frames ∧ 8 + (maxL + 11) + rm.locals ≤ R.locals) (hdg : decode cc pc = .ok (.invokestatic index, 3)) (hls : ls.size = nL) (hcs : cells ≤ R.cells ∧ slots ≤ R.slots)
    (kk : ∀ (S1 : sT) (H1 : Heap) (locs1 : List Loc), Q S1 → va_P D vwCl (w S1) H1 → va_S (aK ks h s.heap.size) s.heap H1 locs1 → W p l e R s m args below meth c H1 locs1 cells slots Z (F0 m (pc + 3) ls rest)) : W p l e R s m args below meth c H locs cells slots Z (F0 m pc ls st) := by
  obtain ⟨hF, hK, hk, hz⟩ := C0
  subst hst
  have hFr : ∀ q, aK ks h H.size q → aK ks h s.heap.size q := aK_le hS.1
  exact va_callv (va_runS (As := As) (rest := rest) hF hM (va_cwS n hF.2.2.2.2 hG rfl hrm.1 hrm.2 hd hR) ⟨gP.blind, gP.go hK hz hS hP⟩ rfl hn hls rfl (lv_room hrs) hdg hcs) hS (fun q _ h => hFr q h) hFr (fun u t H1 locs1 ht hvm hw hB hz1 hk1 hS1 => kk u H1 locs1 hw (by have h9 : va_P D vwCl (w u) t.heap := hB; rw [ht] at h9; exact h9) hS1)
theorem cl_SNi {Q : Int32 → sT → Prop} (C0 : cx p s m args c cc nL own D cA b ks h) (hP : va_P D vwCl (w S) H) (hS : va_S (aK ks h s.heap.size) s.heap H locs)
    (hM : Met l y (wsU y bytes maxL ret) rm (va_Pc (As) (gP D cA b ks h w S H.size)) (va_Qi Q (wB D w) (aK ks h H.size)) 0 0 (aK ks h H.size)) (hG : GoodIn lwG (wsU y bytes maxL ret)) (hq : (own, index, y, host) ∈ nestM) (hi1 : Cond.initialized y.cls ∈ lwG) (hi2 : Cond.static y ∈ lwG) (hd : y.cls ≠ "java/lang/invoke/MethodHandle" ∧ y.cls ≠ "java/lang/invoke/VarHandle" ∧ (parseMethodDescriptor y.desc).map (fun d => d.parameters.length) = some n) (hn : As.length = n) (hst : st = As.reverse ++ rest) (hrs : (rest.map fun v => v.category).sum ≤ 8) (hrm : rm.cells = 0 ∧ rm.slots = 0) (hR : rm.frames + 1 ≤ R.frames ∧ 8 + (maxL + 11) + rm.locals ≤ R.locals) (hdg : decode cc pc = .ok (.invokestatic index, 3)) (hls : ls.size = nL) (hcs : cells ≤ R.cells ∧ slots ≤ R.slots)
    (kk : ∀ (r : Int32) (S1 : sT) (H1 : Heap) (locs1 : List Loc), Q r S1 → va_P D vwCl (w S1) H1 → va_S (aK ks h s.heap.size) s.heap H1 locs1 → W p l e R s m args below meth c H1 locs1 cells slots Z (F0 m (pc + 3) ls (.int r :: rest))) : W p l e R s m args below meth c H locs cells slots Z (F0 m pc ls st) := by
  obtain ⟨hF, hK, hk, hz⟩ := C0
  subst hst
  have hFr : ∀ q, aK ks h H.size q → aK ks h s.heap.size q := aK_le hS.1
  exact va_calli (va_runSN (As := As) (rest := rest) hF hM ⟨va_cnB n hF.2.2.2.2 hG rfl hrm.1 hrm.2 (hK.2.2 _ hq) (hF.2.2.2.2 _ hi1) hd hR, hF.2.2.2.2 _ hi2, trivial⟩ ⟨gP.blind, gP.go hK hz hS hP⟩ rfl hn hls rfl (lv_room hrs) hdg hcs) hS (fun q _ h => hFr q h) hFr (fun r u t H1 locs1 ht hvm hw hB hz1 hk1 hS1 => kk r u H1 locs1 hw (by have h9 : va_P D vwCl (w u) t.heap := hB; rw [ht] at h9; exact h9) hS1)
theorem cl_SNl {Q : Int64 → sT → Prop} (C0 : cx p s m args c cc nL own D cA b ks h) (hP : va_P D vwCl (w S) H) (hS : va_S (aK ks h s.heap.size) s.heap H locs)
    (hM : Met l y (wsU y bytes maxL ret) rm (va_Pc (As) (gP D cA b ks h w S H.size)) (va_Ql Q (wB D w) (aK ks h H.size)) 0 0 (aK ks h H.size)) (hG : GoodIn lwG (wsU y bytes maxL ret)) (hq : (own, index, y, host) ∈ nestM) (hi1 : Cond.initialized y.cls ∈ lwG) (hi2 : Cond.static y ∈ lwG) (hd : y.cls ≠ "java/lang/invoke/MethodHandle" ∧ y.cls ≠ "java/lang/invoke/VarHandle" ∧ (parseMethodDescriptor y.desc).map (fun d => d.parameters.length) = some n) (hn : As.length = n) (hst : st = As.reverse ++ rest) (hrs : (rest.map fun v => v.category).sum ≤ 8) (hrm : rm.cells = 0 ∧ rm.slots = 0) (hR : rm.frames + 1 ≤ R.frames ∧ 8 + (maxL + 11) + rm.locals ≤ R.locals) (hdg : decode cc pc = .ok (.invokestatic index, 3)) (hls : ls.size = nL) (hcs : cells ≤ R.cells ∧ slots ≤ R.slots)
    (kk : ∀ (r : Int64) (S1 : sT) (H1 : Heap) (locs1 : List Loc), Q r S1 → va_P D vwCl (w S1) H1 → va_S (aK ks h s.heap.size) s.heap H1 locs1 → W p l e R s m args below meth c H1 locs1 cells slots Z (F0 m (pc + 3) ls (.long r :: rest))) : W p l e R s m args below meth c H locs cells slots Z (F0 m pc ls st) := by
  obtain ⟨hF, hK, hk, hz⟩ := C0
  subst hst
  have hFr : ∀ q, aK ks h H.size q → aK ks h s.heap.size q := aK_le hS.1
  exact va_calll (va_runSN (As := As) (rest := rest) hF hM ⟨va_cnB n hF.2.2.2.2 hG rfl hrm.1 hrm.2 (hK.2.2 _ hq) (hF.2.2.2.2 _ hi1) hd hR, hF.2.2.2.2 _ hi2, trivial⟩ ⟨gP.blind, gP.go hK hz hS hP⟩ rfl hn hls rfl (lv_room hrs) hdg hcs) hS (fun q _ h => hFr q h) hFr (fun r u t H1 locs1 ht hvm hw hB hz1 hk1 hS1 => kk r u H1 locs1 hw (by have h9 : va_P D vwCl (w u) t.heap := hB; rw [ht] at h9; exact h9) hS1)
theorem cl_SNv {Q : sT → Prop} (C0 : cx p s m args c cc nL own D cA b ks h) (hP : va_P D vwCl (w S) H) (hS : va_S (aK ks h s.heap.size) s.heap H locs)
    (hM : Met l y (wsU y bytes maxL ret) rm (va_Pc (As) (gP D cA b ks h w S H.size)) (va_Qv Q (wB D w) (aK ks h H.size)) 0 0 (aK ks h H.size)) (hG : GoodIn lwG (wsU y bytes maxL ret)) (hq : (own, index, y, host) ∈ nestM) (hi1 : Cond.initialized y.cls ∈ lwG) (hi2 : Cond.static y ∈ lwG) (hd : y.cls ≠ "java/lang/invoke/MethodHandle" ∧ y.cls ≠ "java/lang/invoke/VarHandle" ∧ (parseMethodDescriptor y.desc).map (fun d => d.parameters.length) = some n) (hn : As.length = n) (hst : st = As.reverse ++ rest) (hrs : (rest.map fun v => v.category).sum ≤ 8) (hrm : rm.cells = 0 ∧ rm.slots = 0) (hR : rm.frames + 1 ≤ R.frames ∧ 8 + (maxL + 11) + rm.locals ≤ R.locals) (hdg : decode cc pc = .ok (.invokestatic index, 3)) (hls : ls.size = nL) (hcs : cells ≤ R.cells ∧ slots ≤ R.slots)
    (kk : ∀ (S1 : sT) (H1 : Heap) (locs1 : List Loc), Q S1 → va_P D vwCl (w S1) H1 → va_S (aK ks h s.heap.size) s.heap H1 locs1 → W p l e R s m args below meth c H1 locs1 cells slots Z (F0 m (pc + 3) ls rest)) : W p l e R s m args below meth c H locs cells slots Z (F0 m pc ls st) := by
  obtain ⟨hF, hK, hk, hz⟩ := C0
  subst hst
  have hFr : ∀ q, aK ks h H.size q → aK ks h s.heap.size q := aK_le hS.1
  exact va_callv (va_runSN (As := As) (rest := rest) hF hM ⟨va_cnB n hF.2.2.2.2 hG rfl hrm.1 hrm.2 (hK.2.2 _ hq) (hF.2.2.2.2 _ hi1) hd hR, hF.2.2.2.2 _ hi2, trivial⟩ ⟨gP.blind, gP.go hK hz hS hP⟩ rfl hn hls rfl (lv_room hrs) hdg hcs) hS (fun q _ h => hFr q h) hFr (fun u t H1 locs1 ht hvm hw hB hz1 hk1 hS1 => kk u H1 locs1 hw (by have h9 : va_P D vwCl (w u) t.heap := hB; rw [ht] at h9; exact h9) hS1)
end CL
/-! ===== the two worlds ===== -/
def lenC (k : Nat) : Nat := match k with
  | 5 => 3
  | 12 => 6
  | 20 => 6
  | 21 => 6
  | 22 => 6
  | 23 => 40
  | 24 => 40
  | 25 => 40
  | 33 => 6
  | 34 => 6
  | 35 => 6
  | 36 => 40
  | 37 => 40
  | 38 => 40
  | 46 => 6
  | 47 => 6
  | 48 => 6
  | 49 => 40
  | 50 => 40
  | 51 => 40
  | 59 => 6
  | 60 => 6
  | 61 => 6
  | 62 => 40
  | 63 => 40
  | 64 => 40
  | 72 => 6
  | 73 => 6
  | 74 => 6
  | 75 => 40
  | 76 => 40
  | 77 => 40
  | 111 => 6
  | 113 => 61
  | 200 => 6
  | 201 => 4
  | 300 => 40
  | 301 => 40
  | 302 => 40
  | 303 => 40
  | 304 => 40
  | 305 => 40
  | 310 => 60
  | 311 => 60
  | 312 => 60
  | 313 => 60
  | 320 => 21
  | 321 => 21
  | 322 => 21
  | 323 => 21
  | 324 => 21
  | 325 => 21
  | 330 => 64
  | 331 => 64
  | 332 => 64
  | 333 => 64
  | 334 => 64
  | 350 => 0
  | _ => 0
def lenCL (k : Nat) : Nat := match k with
  | 11 => 21
  | 110 => 6
  | 112 => 21
  | 340 => 10
  | 341 => 10
  | 342 => 10
  | 343 => 10
  | 344 => 10
  | 345 => 10
  | _ => 0
def lenR (k : Nat) : Nat := match k with
  | 0 => 240
  | 1 => 6
  | 2 => 240
  | 3 => 4
  | 8 => 6
  | 12 => 6
  | 13 => 6
  | 14 => 9
  | 15 => 9
  | 16 => 360
  | 18 => 1110
  | 26 => 6
  | 27 => 6
  | 28 => 6
  | 29 => 120
  | 30 => 64
  | 31 => 64
  | _ => 0
abbrev keysCI : List Nat := [12, 20, 21, 22, 23, 24, 25, 33, 34, 35, 36, 37, 38, 46, 47, 48, 49, 50, 51, 59, 60, 61, 62, 63, 64, 72, 73, 74, 75, 76, 77, 111, 113, 200, 201, 300, 301, 302, 303, 304, 305, 310, 311, 312, 313, 320, 321, 322, 323, 324, 325, 330, 331, 332, 333, 334, 350]
abbrev keysCL : List Nat := [11, 110, 112, 340, 341, 342, 343, 344, 345]
abbrev keysR : List Nat := [0, 1, 2, 3, 8, 12, 13, 14, 15, 16, 18, 26, 27, 28, 29, 30, 31]
abbrev keysC : List Nat := [1000, 1001, 1002, 1003, 1004, 1005, 1006, 1007, 1008, 1009, 1010, 1011, 1012, 1013, 1014, 1015, 5] ++ (keysCI ++ keysCL)
abbrev keysRA : List Nat := 100 :: keysR
abbrev oq (f : Nat → Option Nat) : (Nat → Int32) ⊕ (Nat → Int64) ⊕ (Nat → UInt32) ⊕ (Nat → UInt64) ⊕ (Nat → Option Nat) := .inr (.inr (.inr (.inr f)))
def fsD (h : Nat → Nat) (S : sT) : List Value := [.ref (h 1001), .ref (h 1002), .ref (h 1003), .ref (h 1004), .ref (h 1015), .ref (h 5), .ref (h 1008), .ref (h 1009), .ref (h 1012), .ref (h 1013), .ref (h 1014), .ref (h 11), .ref (h 12), .int (vI S 13), .long (vL S 14), .long (vL S 15), .int (vI S 16)]
def fsS (h : Nat → Nat) (g : Nat) : List Value := [.ref (h (1010 + g)), .ref (h (200 + g))]
def fsL (h : Nat → Nat) (S : sT) (j : Nat) : List Value := [.ref (h (20 + 13 * j + 0)), .ref (h (20 + 13 * j + 1)), .ref (h (20 + 13 * j + 2)), .ref (h (20 + 13 * j + 3)), .ref (h (20 + 13 * j + 4)), .ref (h (20 + 13 * j + 5)), .int (vI S (20 + 13 * j + 6)), .int (vI S (20 + 13 * j + 7)), .int (vI S (20 + 13 * j + 8)), .int (vI S (20 + 13 * j + 9)), .int (vI S (20 + 13 * j + 10)), .int (vI S (20 + 13 * j + 11)), .int (vI S (20 + 13 * j + 12))]
def fsE (h : Nat → Nat) (S : sT) : List Value := [.ref (h (vT S)), .int (vI S 101), .int (vI S 102), .int (vI S 103)]
def fsJ (h : Nat → Nat) (S : sT) : List Value := [.ref (h 110), .ref (h 111), .ref (h 112), .ref (h 113), .int (vI S 114), .int (vI S 115), .int (vI S 116)]
def objsC (h : Nat → Nat) (cA : Nat → ClassId) (S : sT) : va_W := [(h 1000, .inr (4, fsD h S)), (h 1001, .inr (3, fsS h 0)), (h 1002, .inr (3, fsS h 1)), (h 1003, .inr (1, fsL h S 0)), (h 1004, .inr (1, fsL h S 1)), (h 1005, .inr (1, fsL h S 2)), (h 1006, .inr (1, fsL h S 3)), (h 1007, .inr (1, fsL h S 4)), (h 1008, .inr (2, fsE h S)), (h 1009, .inr (0, fsJ h S)),
  (h 1010, .inl (cA 4, 6, oq (fun i => some (h (300 + i))))), (h 1011, .inl (cA 4, 4, oq (fun i => some (h (310 + i))))), (h 1012, .inl (cA 5, 6, oq (fun i => some (h (340 + i))))), (h 1013, .inl (cA 4, 6, oq (fun i => some (h (320 + i))))), (h 1014, .inl (cA 4, 5, oq (fun i => some (h (330 + i))))), (h 1015, .inl (cA 3, 3, oq (fun i => some (h (1005 + i))))), (h 5, .inl (cA 2, 3, .inl (vA S 5)))]
def intsC (h : Nat → Nat) (cA : Nat → ClassId) (S : sT) : va_W := keysCI.map (fun k => (h k, .inl (cA 0, lenC k, .inl (vA S k))))
def lonsC (h : Nat → Nat) (cA : Nat → ClassId) (S : sT) : va_W := keysCL.map (fun k => (h k, .inl (cA 1, lenCL k, .inr (.inl (vB S k)))))
def wC (h : Nat → Nat) (cA : Nat → ClassId) (S : sT) : va_W := objsC h cA S ++ (intsC h cA S ++ lonsC h cA S)
def fsR (h : Nat → Nat) (S : sT) : List Value := [.ref (h 0), .ref (h 1), .ref (h 2), .ref (h 3), .int (vI S 4), .long (vL S 5), .long (vL S 6), .int (vI S 7), .ref (h 8), .int (vI S 9), .int (vI S 10), .int (vI S 11), .ref (h 12), .ref (h 13), .ref (h 14), .ref (h 15), .ref (h 16), .int (vI S 17), .ref (h 18), .int (vI S 19), .int (vI S 20), .int (vI S 21), .int (vI S 22), .int (vI S 23), .int (vI S 24), .int (vI S 25), .ref (h 26), .ref (h 27), .ref (h 28), .ref (h 29), .ref (h 30), .ref (h 31)]
def intsR (h : Nat → Nat) (cA : Nat → ClassId) (S : sT) : va_W := keysR.map (fun k => (h k, .inl (cA 0, lenR k, .inl (vA S k))))
def wR (h : Nat → Nat) (cA : Nat → ClassId) (S : sT) : va_W := (h 100, .inr (5, fsR h S)) :: intsR h cA S
theorem wC_fst (h : Nat → Nat) (cA : Nat → ClassId) (S : sT) : (wC h cA S).map Prod.fst = keysC.map h := rfl
theorem wR_fst (h : Nat → Nat) (cA : Nat → ClassId) (S : sT) : (wR h cA S).map Prod.fst = keysRA.map h := rfl
theorem nodCI : keysCI.Nodup := by decide +kernel
theorem nodCL : keysCL.Nodup := by decide +kernel
theorem nodR : keysR.Nodup := by decide +kernel
theorem no5 : ∀ k ∈ keysCI, ¬ 5 = k := by decide +kernel
theorem intsC_len (h : Nat → Nat) (cA : Nat → ClassId) (S : sT) : (intsC h cA S).length = keysCI.length := by unfold intsC; rw [List.length_map]
theorem iC_at (h : Nat → Nat) (cA : Nat → ClassId) (S : sT) {k : Nat} (hk : k ∈ keysCI) : ∃ q, (wC h cA S)[q]? = some (h k, .inl (cA 0, lenC k, .inl (vA S k))) ∧ ∀ f, (wC h cA S).set q (h k, .inl (cA 0, lenC k, .inl f)) = wC h cA (uA S k f) := by
  obtain ⟨i, hi⟩ := List.getElem?_of_mem hk
  have hil : i < keysCI.length := (List.getElem?_eq_some_iff.mp hi).1
  have hlo : (objsC h cA S).length = 17 := rfl
  refine ⟨17 + i, ?_, fun f => ?_⟩
  · unfold wC
    rw [List.getElem?_append_right (by rw [hlo]; omega), hlo, show 17 + i - 17 = i by omega, List.getElem?_append_left (by rw [intsC_len]; exact hil)]
    unfold intsC
    rw [List.getElem?_map, hi]
    rfl
  · unfold wC
    rw [List.set_append, if_neg (by rw [hlo]; omega), hlo, show 17 + i - 17 = i by omega, List.set_append, if_pos (by rw [intsC_len]; exact hil)]
    have h5 : ¬ 5 = k := no5 k hk
    have e1 : objsC h cA (uA S k f) = objsC h cA S := by
      simp only [objsC, fsD, fsL, fsE, fsJ, vI, vL, vT, vA, uA, va_up, if_neg h5]
    have e2 : (intsC h cA S).set i (h k, .inl (cA 0, lenC k, .inl f)) = intsC h cA (uA S k f) := by
      have := ks_set nodCI (F := fun k => ((h k, .inl (cA 0, lenC k, .inl (vA S k))) : Nat × va_E)) (G := fun j => ((h j, .inl (cA 0, lenC j, .inl (vA (uA S k f) j))) : Nat × va_E)) hi (fun j hj => by simp only [vA, uA, va_up, if_neg hj])
      have e3 : vA (uA S k f) k = f := by simp only [vA, uA, va_up, if_true]
      rw [e3] at this
      exact this
    rw [e1, e2]
    rfl
theorem lC_at (h : Nat → Nat) (cA : Nat → ClassId) (S : sT) {k : Nat} (hk : k ∈ keysCL) : ∃ q, (wC h cA S)[q]? = some (h k, .inl (cA 1, lenCL k, .inr (.inl (vB S k)))) ∧ ∀ f, (wC h cA S).set q (h k, .inl (cA 1, lenCL k, .inr (.inl f))) = wC h cA (uB S k f) := by
  obtain ⟨i, hi⟩ := List.getElem?_of_mem hk
  have hil : i < keysCL.length := (List.getElem?_eq_some_iff.mp hi).1
  have hlo : (objsC h cA S).length = 17 := rfl
  have hli := intsC_len h cA S
  refine ⟨17 + keysCI.length + i, ?_, fun f => ?_⟩
  · unfold wC
    rw [List.getElem?_append_right (by rw [hlo]; omega), hlo, List.getElem?_append_right (by rw [hli]; omega), hli, show 17 + keysCI.length + i - 17 - keysCI.length = i by omega]
    unfold lonsC
    rw [List.getElem?_map, hi]
    rfl
  · unfold wC
    rw [List.set_append, if_neg (by rw [hlo]; omega), hlo, List.set_append, if_neg (by rw [hli]; omega), hli, show 17 + keysCI.length + i - 17 - keysCI.length = i by omega]
    have e2 : (lonsC h cA S).set i (h k, .inl (cA 1, lenCL k, .inr (.inl f))) = lonsC h cA (uB S k f) := by
      have := ks_set nodCL (F := fun k => ((h k, .inl (cA 1, lenCL k, .inr (.inl (vB S k)))) : Nat × va_E)) (G := fun j => ((h j, .inl (cA 1, lenCL j, .inr (.inl (vB (uB S k f) j)))) : Nat × va_E)) hi (fun j hj => by simp only [vB, uB, va_up, if_neg hj])
      have e3 : vB (uB S k f) k = f := by simp only [vB, uB, va_up, if_true]
      rw [e3] at this
      exact this
    rw [e2]
    rfl
theorem iR_at (h : Nat → Nat) (cA : Nat → ClassId) (S : sT) {k : Nat} (hk : k ∈ keysR) : ∃ q, (wR h cA S)[q]? = some (h k, .inl (cA 0, lenR k, .inl (vA S k))) ∧ ∀ f, (wR h cA S).set q (h k, .inl (cA 0, lenR k, .inl f)) = wR h cA (uA S k f) := by
  obtain ⟨i, hi⟩ := List.getElem?_of_mem hk
  refine ⟨i + 1, ?_, fun f => ?_⟩
  · unfold wR
    rw [List.getElem?_cons_succ]
    unfold intsR
    rw [List.getElem?_map, hi]
    rfl
  · unfold wR
    rw [List.set_cons_succ]
    have e2 : (intsR h cA S).set i (h k, .inl (cA 0, lenR k, .inl f)) = intsR h cA (uA S k f) := by
      have := ks_set nodR (F := fun k => ((h k, .inl (cA 0, lenR k, .inl (vA S k))) : Nat × va_E)) (G := fun j => ((h j, .inl (cA 0, lenR j, .inl (vA (uA S k f) j))) : Nat × va_E)) hi (fun j hj => by simp only [vA, uA, va_up, if_neg hj])
      have e3 : vA (uA S k f) k = f := by simp only [vA, uA, va_up, if_true]
      rw [e3] at this
      exact this
    rw [e2]
    rfl
theorem zC_at (h : Nat → Nat) (cA : Nat → ClassId) (S : sT) : (wC h cA S)[16]? = some (h 5, .inl (cA 2, 3, .inl (vA S 5))) := rfl
theorem zC_set (h : Nat → Nat) (cA : Nat → ClassId) (S : sT) (f : Nat → Int32) : (wC h cA S).set 16 (h 5, .inl (cA 2, 3, .inl f)) = wC h cA (uA S 5 f) := by
  have e : intsC h cA (uA S 5 f) = intsC h cA S := by
    unfold intsC
    apply List.map_congr_left
    intro k hk
    have h5 : ¬ k = 5 := fun e => no5 k hk e.symm
    simp only [vA, uA, va_up, if_neg h5]
  unfold wC
  rw [e]
  rfl
theorem oD_at (h : Nat → Nat) (cA : Nat → ClassId) (S : sT) : (wC h cA S)[0]? = some (h 1000, .inr (4, fsD h S)) := rfl
theorem oE_at (h : Nat → Nat) (cA : Nat → ClassId) (S : sT) : (wC h cA S)[8]? = some (h 1008, .inr (2, fsE h S)) := rfl
theorem oJ_at (h : Nat → Nat) (cA : Nat → ClassId) (S : sT) : (wC h cA S)[9]? = some (h 1009, .inr (0, fsJ h S)) := rfl
theorem oL_at (h : Nat → Nat) (cA : Nat → ClassId) (S : sT) (j : Nat) (hj : j < 5) : (wC h cA S)[3 + j]? = some (h (1003 + j), .inr (1, fsL h S j)) := by
  rcases (show j = 0 ∨ j = 1 ∨ j = 2 ∨ j = 3 ∨ j = 4 by omega) with rfl | rfl | rfl | rfl | rfl <;> rfl
theorem oS_at (h : Nat → Nat) (cA : Nat → ClassId) (S : sT) (g : Nat) (hg : g < 2) : (wC h cA S)[1 + g]? = some (h (1001 + g), .inr (3, fsS h g)) := by
  rcases (show g = 0 ∨ g = 1 by omega) with rfl | rfl <;> rfl
theorem oR_at (h : Nat → Nat) (cA : Nat → ClassId) (S : sT) : (wR h cA S)[0]? = some (h 100, .inr (5, fsR h S)) := rfl
def nO (g : Nat) : Nat := match g with
  | 0 => 6
  | _ => 4
theorem oG_at (h : Nat → Nat) (cA : Nat → ClassId) (S : sT) (g : Nat) (hg : g < 2) : (wC h cA S)[10 + g]? = some (h (1010 + g), .inl (cA 4, nO g, oq (fun i => some (h (300 + 10 * g + i))))) := by
  rcases (show g = 0 ∨ g = 1 by omega) with rfl | rfl <;> rfl
/-! keys of rows -/
theorem kLine : ∀ j, j < 5 → ∀ f, f < 6 → 20 + 13 * j + f ∈ keysCI := by decide +kernel
theorem kSize : ∀ g, g < 2 → 200 + g ∈ keysCI := by decide +kernel
theorem kRow : ∀ g, g < 2 → ∀ r, r < nO g → 300 + 10 * g + r ∈ keysCI := by decide +kernel
theorem kRow0 : ∀ r, r < 6 → 300 + r ∈ keysCI := by decide +kernel
theorem kRow1 : ∀ r, r < 4 → 310 + r ∈ keysCI := by decide +kernel
theorem kTrk : ∀ r, r < 6 → 320 + r ∈ keysCI := by decide +kernel
theorem kDue : ∀ r, r < 5 → 330 + r ∈ keysCI := by decide +kernel
theorem kSup : ∀ r, r < 6 → 340 + r ∈ keysCL := by decide +kernel
def nW (g : Nat) : Nat := match g with
  | 0 => 40
  | _ => 60
theorem lLineA : ∀ j, j < 5 → ∀ f, f < 3 → lenC (20 + 13 * j + f) = 6 := by decide +kernel
theorem lLineB : ∀ j, j < 5 → ∀ f, f < 6 → 3 ≤ f → lenC (20 + 13 * j + f) = 40 := by decide +kernel
theorem lSize : ∀ g, g < 2 → lenC (200 + g) = nO g := by decide +kernel
theorem lRow : ∀ g, g < 2 → ∀ r, r < nO g → lenC (300 + 10 * g + r) = nW g := by decide +kernel
theorem lRow0 : ∀ r, r < 6 → lenC (300 + r) = 40 := by decide +kernel
theorem lRow1 : ∀ r, r < 4 → lenC (310 + r) = 60 := by decide +kernel
theorem lTrk : ∀ r, r < 6 → lenC (320 + r) = 21 := by decide +kernel
theorem lDue : ∀ r, r < 5 → lenC (330 + r) = 64 := by decide +kernel
theorem lSup : ∀ r, r < 6 → lenCL (340 + r) = 10 := by decide +kernel
theorem sw_out {x : Int32} (lo hi : Int) (hlo : -2147483648 ≤ lo) (hhi : hi ≤ 2147483647) (h : ∀ v : Int, lo ≤ v → v ≤ hi → ¬ x = Int32.ofInt v) : x.toInt < lo ∨ hi < x.toInt := by
  by_cases h1 : x.toInt < lo
  · exact Or.inl h1
  · by_cases h2 : hi < x.toInt
    · exact Or.inr h2
    · exact absurd (Int32.ofInt_toInt x).symm (h x.toInt (by omega) (by omega))
theorem vp_lt {i : Int32} {n : Nat} (h : vp_in i n) : i.toNatClampNeg < n := Nat.not_le.mp fun q => h (Or.inr q)
section LD
variable {p : Program} {l : Launch} {e : Env} {R : Room} {s : State} {m : MethodId} {args : Array Value} {below : List Frame} {meth : Method} {c : Code} {H : Heap} {locs : List Loc} {Z : State → Prop}
variable {cc : ByteArray} {nL pc : Nat} {own : String} {D : va_G} {cA : Nat → ClassId} {h : Nat → Nat} {S : sT} {ls : Array Slot} {rest : List Value} {k : Nat} {i : Int32} {cells slots : Nat}
theorem va_aldy {cl : List vw_C} {tys : List (ClassId × FieldType)} {ws : va_W} {a : Nat} (hexec : p.tables.exec = Jvm.exec) (hb : c.code = cc) (hK : va_K D cl tys s) (hP : va_P D cl ws H) (q0 t0 : Nat) {cB : ClassId} {ty : FieldType} {n : Nat} {f : Nat → Option Nat} (ha : ws[q0]? = some (a, .inl (cB, n, oq f))) (ht : tys[t0]? = some (cB, .array ty)) (hin : vp_in i n) (hdg : decode cc pc = .ok (.aaload, 1))
    (kk : W p l e R s m args below meth c H locs cells slots Z (F0 m (pc + 1) ls (va_rf (f i.toNatClampNeg) :: rest))) : W p l e R s m args below meth c H locs cells slots Z (F0 m pc ls (.int i :: .ref a :: rest)) := by
  have hlt : i.toNatClampNeg < n := Nat.not_le.mp fun q => hin (Or.inr q)
  exact W.aald (v := va_rf (f i.toNatClampNeg)) (ty := .array ty) hexec hb (hP q0 _ ha) ((hK.2 t0 _ ht).1 n (fun j => va_rf (f j))) rfl (fun q => by cases q) (by show ¬ (i < 0 ∨ (arrV _ _ _).slots.size ≤ _); rw [arrV_size]; exact hin) (by show (arrV _ _ _).slots[_]? = _; rw [arrV_read _ _ hlt]) rfl rfl hdg kk
theorem ldC (hk : k ∈ keysCI) (C0 : cx p s m args c cc nL own D cA true keysC h) (hP : va_P D vwCl (wC h cA S) H) (hin : vp_in i (lenC k)) (hdg : decode cc pc = .ok (.iaload, 1)) (kk : W p l e R s m args below meth c H locs cells slots Z (F0 m (pc + 1) ls (.int (vA S k i.toNatClampNeg) :: rest))) : W p l e R s m args below meth c H locs cells slots Z (F0 m pc ls (.int i :: .ref (h k) :: rest)) := by
  obtain ⟨q, hq, -⟩ := iC_at h cA S hk
  exact va_iald C0.1.1 C0.1.2.1 C0.2.1.1 hP q 0 hq rfl hin hdg kk
theorem stC (hk : k ∈ keysCI) (C0 : cx p s m args c cc nL own D cA true keysC h) (hP : va_P D vwCl (wC h cA S) H) (hS : va_S (aK keysC h s.heap.size) s.heap H locs) {x : Int32} (hin : vp_in i (lenC k)) (hdg : decode cc pc = .ok (.iastore, 1)) (kk : ∀ (H1 : Heap) (locs1 : List Loc), va_P D vwCl (wC h cA (uA S k (upd (vA S k) i.toNatClampNeg x))) H1 → va_S (aK keysC h s.heap.size) s.heap H1 locs1 → W p l e R s m args below meth c H1 locs1 cells slots Z (F0 m (pc + 1) ls rest)) : W p l e R s m args below meth c H locs cells slots Z (F0 m pc ls (.int x :: .int i :: .ref (h k) :: rest)) := by
  obtain ⟨q, hq, hs⟩ := iC_at h cA S hk
  exact va_iast C0.1.1 C0.1.2.1 C0.2.1.1 hP (wD (wC_fst h cA S) C0.2.2.1 _) hS q 0 hq rfl hin hdg (fun H1 l1 hP1 _ hS1 => kk H1 l1 (by rw [hs] at hP1; exact hP1) hS1)
theorem alC (hk : k ∈ keysCI) (C0 : cx p s m args c cc nL own D cA true keysC h) (hP : va_P D vwCl (wC h cA S) H) (hdg : decode cc pc = .ok (.arraylength, 1)) (kk : W p l e R s m args below meth c H locs cells slots Z (F0 m (pc + 1) ls (.int (nI (lenC k)) :: rest))) : W p l e R s m args below meth c H locs cells slots Z (F0 m pc ls (.ref (h k) :: rest)) := by
  obtain ⟨q, hq, -⟩ := iC_at h cA S hk
  exact va_alen C0.1.1 C0.1.2.1 C0.2.1.1 hP q 0 hq rfl rfl hdg kk
theorem ldR (hk : k ∈ keysR) (C0 : cx p s m args c cc nL own D cA false keysRA h) (hP : va_P D vwCl (wR h cA S) H) (hin : vp_in i (lenR k)) (hdg : decode cc pc = .ok (.iaload, 1)) (kk : W p l e R s m args below meth c H locs cells slots Z (F0 m (pc + 1) ls (.int (vA S k i.toNatClampNeg) :: rest))) : W p l e R s m args below meth c H locs cells slots Z (F0 m pc ls (.int i :: .ref (h k) :: rest)) := by
  obtain ⟨q, hq, -⟩ := iR_at h cA S hk
  exact va_iald C0.1.1 C0.1.2.1 C0.2.1.1 hP q 0 hq rfl hin hdg kk
theorem stR (hk : k ∈ keysR) (C0 : cx p s m args c cc nL own D cA false keysRA h) (hP : va_P D vwCl (wR h cA S) H) (hS : va_S (aK keysRA h s.heap.size) s.heap H locs) {x : Int32} (hin : vp_in i (lenR k)) (hdg : decode cc pc = .ok (.iastore, 1)) (kk : ∀ (H1 : Heap) (locs1 : List Loc), va_P D vwCl (wR h cA (uA S k (upd (vA S k) i.toNatClampNeg x))) H1 → va_S (aK keysRA h s.heap.size) s.heap H1 locs1 → W p l e R s m args below meth c H1 locs1 cells slots Z (F0 m (pc + 1) ls rest)) : W p l e R s m args below meth c H locs cells slots Z (F0 m pc ls (.int x :: .int i :: .ref (h k) :: rest)) := by
  obtain ⟨q, hq, hs⟩ := iR_at h cA S hk
  exact va_iast C0.1.1 C0.1.2.1 C0.2.1.1 hP (wD (wR_fst h cA S) C0.2.2.1 _) hS q 0 hq rfl hin hdg (fun H1 l1 hP1 _ hS1 => kk H1 l1 (by rw [hs] at hP1; exact hP1) hS1)
theorem alR (hk : k ∈ keysR) (C0 : cx p s m args c cc nL own D cA false keysRA h) (hP : va_P D vwCl (wR h cA S) H) (hdg : decode cc pc = .ok (.arraylength, 1)) (kk : W p l e R s m args below meth c H locs cells slots Z (F0 m (pc + 1) ls (.int (nI (lenR k)) :: rest))) : W p l e R s m args below meth c H locs cells slots Z (F0 m pc ls (.ref (h k) :: rest)) := by
  obtain ⟨q, hq, -⟩ := iR_at h cA S hk
  exact va_alen C0.1.1 C0.1.2.1 C0.2.1.1 hP q 0 hq rfl rfl hdg kk
theorem ldL (hk : k ∈ keysCL) (C0 : cx p s m args c cc nL own D cA true keysC h) (hP : va_P D vwCl (wC h cA S) H) (hin : vp_in i (lenCL k)) (hdg : decode cc pc = .ok (.laload, 1)) (kk : W p l e R s m args below meth c H locs cells slots Z (F0 m (pc + 1) ls (.long (vB S k i.toNatClampNeg) :: rest))) : W p l e R s m args below meth c H locs cells slots Z (F0 m pc ls (.int i :: .ref (h k) :: rest)) := by
  obtain ⟨q, hq, -⟩ := lC_at h cA S hk
  exact va_lald C0.1.1 C0.1.2.1 C0.2.1.1 hP q 1 hq rfl hin hdg kk
theorem stL (hk : k ∈ keysCL) (C0 : cx p s m args c cc nL own D cA true keysC h) (hP : va_P D vwCl (wC h cA S) H) (hS : va_S (aK keysC h s.heap.size) s.heap H locs) {x : Int64} (hin : vp_in i (lenCL k)) (hdg : decode cc pc = .ok (.lastore, 1)) (kk : ∀ (H1 : Heap) (locs1 : List Loc), va_P D vwCl (wC h cA (uB S k (vp_updL (vB S k) i.toNatClampNeg x))) H1 → va_S (aK keysC h s.heap.size) s.heap H1 locs1 → W p l e R s m args below meth c H1 locs1 cells slots Z (F0 m (pc + 1) ls rest)) : W p l e R s m args below meth c H locs cells slots Z (F0 m pc ls (.long x :: .int i :: .ref (h k) :: rest)) := by
  obtain ⟨q, hq, hs⟩ := lC_at h cA S hk
  exact va_last C0.1.1 C0.1.2.1 C0.2.1.1 hP (wD (wC_fst h cA S) C0.2.2.1 _) hS q 1 hq rfl hin hdg (fun H1 l1 hP1 _ hS1 => kk H1 l1 (by rw [hs] at hP1; exact hP1) hS1)
theorem alL (hk : k ∈ keysCL) (C0 : cx p s m args c cc nL own D cA true keysC h) (hP : va_P D vwCl (wC h cA S) H) (hdg : decode cc pc = .ok (.arraylength, 1)) (kk : W p l e R s m args below meth c H locs cells slots Z (F0 m (pc + 1) ls (.int (nI (lenCL k)) :: rest))) : W p l e R s m args below meth c H locs cells slots Z (F0 m pc ls (.ref (h k) :: rest)) := by
  obtain ⟨q, hq, -⟩ := lC_at h cA S hk
  exact va_alen C0.1.1 C0.1.2.1 C0.2.1.1 hP q 1 hq rfl rfl hdg kk
theorem ldZ (C0 : cx p s m args c cc nL own D cA true keysC h) (hP : va_P D vwCl (wC h cA S) H) (hin : vp_in i 3) (hdg : decode cc pc = .ok (.baload, 1)) (kk : W p l e R s m args below meth c H locs cells slots Z (F0 m (pc + 1) ls (.int (vA S 5 i.toNatClampNeg) :: rest))) : W p l e R s m args below meth c H locs cells slots Z (F0 m pc ls (.int i :: .ref (h 5) :: rest)) :=
  va_zald C0.1.1 C0.1.2.1 C0.2.1.1 hP 16 2 (zC_at h cA S) rfl hin hdg kk
theorem stZ (C0 : cx p s m args c cc nL own D cA true keysC h) (hP : va_P D vwCl (wC h cA S) H) (hS : va_S (aK keysC h s.heap.size) s.heap H locs) {x : Int32} (hin : vp_in i 3) (hdg : decode cc pc = .ok (.bastore, 1)) (kk : ∀ (H1 : Heap) (locs1 : List Loc), va_P D vwCl (wC h cA (uA S 5 (upd (vA S 5) i.toNatClampNeg (vp_nar .boolean x)))) H1 → va_S (aK keysC h s.heap.size) s.heap H1 locs1 → W p l e R s m args below meth c H1 locs1 cells slots Z (F0 m (pc + 1) ls rest)) : W p l e R s m args below meth c H locs cells slots Z (F0 m pc ls (.int x :: .int i :: .ref (h 5) :: rest)) :=
  va_zast C0.1.1 C0.1.2.1 C0.2.1.1 hP (wD (wC_fst h cA S) C0.2.2.1 _) hS 16 2 (zC_at h cA S) rfl hin hdg (fun H1 l1 hP1 _ hS1 => kk H1 l1 (by rw [zC_set] at hP1; exact hP1) hS1)
theorem ao_1010 (C0 : cx p s m args c cc nL own D cA true keysC h) (hP : va_P D vwCl (wC h cA S) H) (hin : vp_in i 6) (hdg : decode cc pc = .ok (.aaload, 1)) (kk : W p l e R s m args below meth c H locs cells slots Z (F0 m (pc + 1) ls (.ref (h (300 + i.toNatClampNeg)) :: rest))) : W p l e R s m args below meth c H locs cells slots Z (F0 m pc ls (.int i :: .ref (h 1010) :: rest)) :=
  va_aldy C0.1.1 C0.1.2.1 C0.2.1.1 hP 10 4 (rfl : (wC h cA S)[10]? = some (h 1010, .inl (cA 4, 6, oq (fun i => some (h (300 + i)))))) rfl hin hdg kk
theorem ao_1011 (C0 : cx p s m args c cc nL own D cA true keysC h) (hP : va_P D vwCl (wC h cA S) H) (hin : vp_in i 4) (hdg : decode cc pc = .ok (.aaload, 1)) (kk : W p l e R s m args below meth c H locs cells slots Z (F0 m (pc + 1) ls (.ref (h (310 + i.toNatClampNeg)) :: rest))) : W p l e R s m args below meth c H locs cells slots Z (F0 m pc ls (.int i :: .ref (h 1011) :: rest)) :=
  va_aldy C0.1.1 C0.1.2.1 C0.2.1.1 hP 11 4 (rfl : (wC h cA S)[11]? = some (h 1011, .inl (cA 4, 4, oq (fun i => some (h (310 + i)))))) rfl hin hdg kk
theorem ao_1012 (C0 : cx p s m args c cc nL own D cA true keysC h) (hP : va_P D vwCl (wC h cA S) H) (hin : vp_in i 6) (hdg : decode cc pc = .ok (.aaload, 1)) (kk : W p l e R s m args below meth c H locs cells slots Z (F0 m (pc + 1) ls (.ref (h (340 + i.toNatClampNeg)) :: rest))) : W p l e R s m args below meth c H locs cells slots Z (F0 m pc ls (.int i :: .ref (h 1012) :: rest)) :=
  va_aldy C0.1.1 C0.1.2.1 C0.2.1.1 hP 12 5 (rfl : (wC h cA S)[12]? = some (h 1012, .inl (cA 5, 6, oq (fun i => some (h (340 + i)))))) rfl hin hdg kk
theorem ao_1013 (C0 : cx p s m args c cc nL own D cA true keysC h) (hP : va_P D vwCl (wC h cA S) H) (hin : vp_in i 6) (hdg : decode cc pc = .ok (.aaload, 1)) (kk : W p l e R s m args below meth c H locs cells slots Z (F0 m (pc + 1) ls (.ref (h (320 + i.toNatClampNeg)) :: rest))) : W p l e R s m args below meth c H locs cells slots Z (F0 m pc ls (.int i :: .ref (h 1013) :: rest)) :=
  va_aldy C0.1.1 C0.1.2.1 C0.2.1.1 hP 13 4 (rfl : (wC h cA S)[13]? = some (h 1013, .inl (cA 4, 6, oq (fun i => some (h (320 + i)))))) rfl hin hdg kk
theorem ao_1014 (C0 : cx p s m args c cc nL own D cA true keysC h) (hP : va_P D vwCl (wC h cA S) H) (hin : vp_in i 5) (hdg : decode cc pc = .ok (.aaload, 1)) (kk : W p l e R s m args below meth c H locs cells slots Z (F0 m (pc + 1) ls (.ref (h (330 + i.toNatClampNeg)) :: rest))) : W p l e R s m args below meth c H locs cells slots Z (F0 m pc ls (.int i :: .ref (h 1014) :: rest)) :=
  va_aldy C0.1.1 C0.1.2.1 C0.2.1.1 hP 14 4 (rfl : (wC h cA S)[14]? = some (h 1014, .inl (cA 4, 5, oq (fun i => some (h (330 + i)))))) rfl hin hdg kk
theorem ao_1015 (C0 : cx p s m args c cc nL own D cA true keysC h) (hP : va_P D vwCl (wC h cA S) H) (hin : vp_in i 3) (hdg : decode cc pc = .ok (.aaload, 1)) (kk : W p l e R s m args below meth c H locs cells slots Z (F0 m (pc + 1) ls (.ref (h (1003 + (2 + i.toNatClampNeg))) :: rest))) : W p l e R s m args below meth c H locs cells slots Z (F0 m pc ls (.int i :: .ref (h 1015) :: rest)) :=
  va_aldq C0.1.1 C0.1.2.1 C0.2.1.1 hP 15 3 (rfl : (wC h cA S)[15]? = some (h 1015, .inl (cA 3, 3, oq (fun i => some (h (1005 + i)))))) rfl hin hdg (by rw [show 1003 + (2 + i.toNatClampNeg) = 1005 + i.toNatClampNeg by omega] at kk; exact kk)
theorem ao_shelf (g : Nat) (hg : g < 2) (C0 : cx p s m args c cc nL own D cA true keysC h) (hP : va_P D vwCl (wC h cA S) H) (hin : vp_in i (nO g)) (hdg : decode cc pc = .ok (.aaload, 1)) (kk : W p l e R s m args below meth c H locs cells slots Z (F0 m (pc + 1) ls (.ref (h (300 + 10 * g + i.toNatClampNeg)) :: rest))) : W p l e R s m args below meth c H locs cells slots Z (F0 m pc ls (.int i :: .ref (h (1010 + g)) :: rest)) :=
  va_aldy C0.1.1 C0.1.2.1 C0.2.1.1 hP (10 + g) 4 (oG_at h cA S g hg) rfl hin hdg kk
end LD
theorem ginX0 : ∀ w ∈ u_ws RX0 TX0 7, w ∈ lwG := by
  intro w hw
  obtain ⟨k, hk, rfl⟩ := List.mem_map.mp hw
  have hk := List.mem_range.mp hk
  rcases (show k = 0 ∨ k = 1 ∨ k = 2 ∨ k = 3 ∨ k = 4 ∨ k = 5 ∨ k = 6 by omega) with rfl | rfl | rfl | rfl | rfl | rfl | rfl
  · exact lwG_at 224 (by decide +kernel) (by decide +kernel)
  · exact lwG_at 226 (by decide +kernel) (by decide +kernel)
  · exact lwG_at 228 (by decide +kernel) (by decide +kernel)
  · exact lwG_at 230 (by decide +kernel) (by decide +kernel)
  · exact lwG_at 232 (by decide +kernel) (by decide +kernel)
  · exact lwG_at 234 (by decide +kernel) (by decide +kernel)
  · exact lwG_at 236 (by decide +kernel) (by decide +kernel)
theorem ginX1 : ∀ w ∈ u_ws RX1 TX1 13, w ∈ lwG := by
  intro w hw
  obtain ⟨k, hk, rfl⟩ := List.mem_map.mp hw
  have hk := List.mem_range.mp hk
  rcases (show k = 0 ∨ k = 1 ∨ k = 2 ∨ k = 3 ∨ k = 4 ∨ k = 5 ∨ k = 6 ∨ k = 7 ∨ k = 8 ∨ k = 9 ∨ k = 10 ∨ k = 11 ∨ k = 12 by omega) with rfl | rfl | rfl | rfl | rfl | rfl | rfl | rfl | rfl | rfl | rfl | rfl | rfl
  · exact lwG_at 160 (by decide +kernel) (by decide +kernel)
  · exact lwG_at 162 (by decide +kernel) (by decide +kernel)
  · exact lwG_at 164 (by decide +kernel) (by decide +kernel)
  · exact lwG_at 166 (by decide +kernel) (by decide +kernel)
  · exact lwG_at 168 (by decide +kernel) (by decide +kernel)
  · exact lwG_at 170 (by decide +kernel) (by decide +kernel)
  · exact lwG_at 172 (by decide +kernel) (by decide +kernel)
  · exact lwG_at 174 (by decide +kernel) (by decide +kernel)
  · exact lwG_at 176 (by decide +kernel) (by decide +kernel)
  · exact lwG_at 178 (by decide +kernel) (by decide +kernel)
  · exact lwG_at 180 (by decide +kernel) (by decide +kernel)
  · exact lwG_at 182 (by decide +kernel) (by decide +kernel)
  · exact lwG_at 184 (by decide +kernel) (by decide +kernel)
theorem ginX2 : ∀ w ∈ u_ws RX2 TX2 4, w ∈ lwG := by
  intro w hw
  obtain ⟨k, hk, rfl⟩ := List.mem_map.mp hw
  have hk := List.mem_range.mp hk
  rcases (show k = 0 ∨ k = 1 ∨ k = 2 ∨ k = 3 by omega) with rfl | rfl | rfl | rfl
  · exact lwG_at 198 (by decide +kernel) (by decide +kernel)
  · exact lwG_at 200 (by decide +kernel) (by decide +kernel)
  · exact lwG_at 202 (by decide +kernel) (by decide +kernel)
  · exact lwG_at 204 (by decide +kernel) (by decide +kernel)
theorem ginX3 : ∀ w ∈ u_ws RX3 TX3 2, w ∈ lwG := by
  intro w hw
  obtain ⟨k, hk, rfl⟩ := List.mem_map.mp hw
  have hk := List.mem_range.mp hk
  rcases (show k = 0 ∨ k = 1 by omega) with rfl | rfl
  · exact lwG_at 116 (by decide +kernel) (by decide +kernel)
  · exact lwG_at 118 (by decide +kernel) (by decide +kernel)
theorem ginX4 : ∀ w ∈ u_ws RX4 TX4 17, w ∈ lwG := by
  intro w hw
  obtain ⟨k, hk, rfl⟩ := List.mem_map.mp hw
  have hk := List.mem_range.mp hk
  rcases (show k = 0 ∨ k = 1 ∨ k = 2 ∨ k = 3 ∨ k = 4 ∨ k = 5 ∨ k = 6 ∨ k = 7 ∨ k = 8 ∨ k = 9 ∨ k = 10 ∨ k = 11 ∨ k = 12 ∨ k = 13 ∨ k = 14 ∨ k = 15 ∨ k = 16 by omega) with rfl | rfl | rfl | rfl | rfl | rfl | rfl | rfl | rfl | rfl | rfl | rfl | rfl | rfl | rfl | rfl | rfl
  · exact lwG_at 260 (by decide +kernel) (by decide +kernel)
  · exact lwG_at 262 (by decide +kernel) (by decide +kernel)
  · exact lwG_at 264 (by decide +kernel) (by decide +kernel)
  · exact lwG_at 266 (by decide +kernel) (by decide +kernel)
  · exact lwG_at 268 (by decide +kernel) (by decide +kernel)
  · exact lwG_at 270 (by decide +kernel) (by decide +kernel)
  · exact lwG_at 272 (by decide +kernel) (by decide +kernel)
  · exact lwG_at 274 (by decide +kernel) (by decide +kernel)
  · exact lwG_at 276 (by decide +kernel) (by decide +kernel)
  · exact lwG_at 278 (by decide +kernel) (by decide +kernel)
  · exact lwG_at 280 (by decide +kernel) (by decide +kernel)
  · exact lwG_at 282 (by decide +kernel) (by decide +kernel)
  · exact lwG_at 284 (by decide +kernel) (by decide +kernel)
  · exact lwG_at 286 (by decide +kernel) (by decide +kernel)
  · exact lwG_at 288 (by decide +kernel) (by decide +kernel)
  · exact lwG_at 290 (by decide +kernel) (by decide +kernel)
  · exact lwG_at 292 (by decide +kernel) (by decide +kernel)
theorem ginX5 : ∀ w ∈ u_ws RX5 TX5 32, w ∈ lwG := by
  intro w hw
  obtain ⟨k, hk, rfl⟩ := List.mem_map.mp hw
  have hk := List.mem_range.mp hk
  rcases (show k = 0 ∨ k = 1 ∨ k = 2 ∨ k = 3 ∨ k = 4 ∨ k = 5 ∨ k = 6 ∨ k = 7 ∨ k = 8 ∨ k = 9 ∨ k = 10 ∨ k = 11 ∨ k = 12 ∨ k = 13 ∨ k = 14 ∨ k = 15 ∨ k = 16 ∨ k = 17 ∨ k = 18 ∨ k = 19 ∨ k = 20 ∨ k = 21 ∨ k = 22 ∨ k = 23 ∨ k = 24 ∨ k = 25 ∨ k = 26 ∨ k = 27 ∨ k = 28 ∨ k = 29 ∨ k = 30 ∨ k = 31 by omega) with rfl | rfl | rfl | rfl | rfl | rfl | rfl | rfl | rfl | rfl | rfl | rfl | rfl | rfl | rfl | rfl | rfl | rfl | rfl | rfl | rfl | rfl | rfl | rfl | rfl | rfl | rfl | rfl | rfl | rfl | rfl | rfl
  · exact lwG_at 768 (by decide +kernel) (by decide +kernel)
  · exact lwG_at 770 (by decide +kernel) (by decide +kernel)
  · exact lwG_at 772 (by decide +kernel) (by decide +kernel)
  · exact lwG_at 774 (by decide +kernel) (by decide +kernel)
  · exact lwG_at 776 (by decide +kernel) (by decide +kernel)
  · exact lwG_at 778 (by decide +kernel) (by decide +kernel)
  · exact lwG_at 780 (by decide +kernel) (by decide +kernel)
  · exact lwG_at 782 (by decide +kernel) (by decide +kernel)
  · exact lwG_at 784 (by decide +kernel) (by decide +kernel)
  · exact lwG_at 786 (by decide +kernel) (by decide +kernel)
  · exact lwG_at 788 (by decide +kernel) (by decide +kernel)
  · exact lwG_at 790 (by decide +kernel) (by decide +kernel)
  · exact lwG_at 792 (by decide +kernel) (by decide +kernel)
  · exact lwG_at 794 (by decide +kernel) (by decide +kernel)
  · exact lwG_at 796 (by decide +kernel) (by decide +kernel)
  · exact lwG_at 798 (by decide +kernel) (by decide +kernel)
  · exact lwG_at 800 (by decide +kernel) (by decide +kernel)
  · exact lwG_at 802 (by decide +kernel) (by decide +kernel)
  · exact lwG_at 804 (by decide +kernel) (by decide +kernel)
  · exact lwG_at 806 (by decide +kernel) (by decide +kernel)
  · exact lwG_at 808 (by decide +kernel) (by decide +kernel)
  · exact lwG_at 810 (by decide +kernel) (by decide +kernel)
  · exact lwG_at 812 (by decide +kernel) (by decide +kernel)
  · exact lwG_at 814 (by decide +kernel) (by decide +kernel)
  · exact lwG_at 816 (by decide +kernel) (by decide +kernel)
  · exact lwG_at 818 (by decide +kernel) (by decide +kernel)
  · exact lwG_at 820 (by decide +kernel) (by decide +kernel)
  · exact lwG_at 822 (by decide +kernel) (by decide +kernel)
  · exact lwG_at 824 (by decide +kernel) (by decide +kernel)
  · exact lwG_at 826 (by decide +kernel) (by decide +kernel)
  · exact lwG_at 828 (by decide +kernel) (by decide +kernel)
  · exact lwG_at 830 (by decide +kernel) (by decide +kernel)
