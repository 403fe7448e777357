theorem lar_int : Cond.arrayClass .int ∈ lwG := lwG_at 121 (by decide +kernel) (by decide +kernel)
theorem lar_boolean : Cond.arrayClass .boolean ∈ lwG := lwG_at 207 (by decide +kernel) (by decide +kernel)
theorem lar_long : Cond.arrayClass .long ∈ lwG := lwG_at 239 (by decide +kernel) (by decide +kernel)
/-! making: rows, rows of rows, objects -/
theorem arrV_congr (cI : ClassId) {N : Nat} {f g : Nat → Value} (h : ∀ j, j < N → f j = g j) : arrV cI N f = arrV cI N g := by
  unfold arrV
  congr 2
  funext j
  exact h j.1 j.2
theorem ky_of {A : Nat → Prop} {w : va_W} {ks : List Nat} {h : Nat → Nat} (hn : ks.Nodup) (hm : w.map Prod.fst = ks.map h) (hD : va_D A w) : ky ks h := by
  refine ⟨hn, fun a ha b hb e => ?_⟩
  obtain ⟨i, hi⟩ := List.getElem?_of_mem ha
  obtain ⟨j, hj⟩ := List.getElem?_of_mem hb
  have at' : ∀ (i k : Nat), ks[i]? = some k → ∃ p, w[i]? = some p ∧ p.1 = h k := by
    intro i k hk
    have h1 : (ks.map h)[i]? = some (h k) := by rw [List.getElem?_map, hk]; rfl
    rw [← hm, List.getElem?_map] at h1
    rcases hw : w[i]? with _ | p
    · rw [hw] at h1; cases h1
    · rw [hw] at h1; exact ⟨p, rfl, Option.some.inj h1⟩
  obtain ⟨p, hp, ep⟩ := at' i a hi
  obtain ⟨q, hq, eq⟩ := at' j b hj
  have hij : i = j := hD.1 i j p q hp hq (by rw [ep, eq, e])
  subst hij
  exact Option.some.inj (hi.symm.trans hj)
/-- what a making method may use beside the words -/
def kM (D : va_G) (cA : Nat → ClassId) (U : State) : Prop := kA D cA U ∧ va_AO RX1 U ∧ va_Nw (.arrayOver (.array .int)) U ∧ va_Nw (.arrayOver (.array .long)) U
theorem va_idx_bare2 (vm : Vm) (comp : ClassId) : (vm.bare.classes.findIdx? fun (x : Class) => match x.kind with | .array component _ => component == comp | _ => false) = (vm.classes.findIdx? fun (x : Class) => match x.kind with | .array component _ => component == comp | _ => false) := va_idx_bare vm comp
theorem ovr_moved {t : FieldType} {u U : State} (hvm : u.vm.Alike U.vm) (h : va_Nw (.arrayOver (.array t)) u) : va_Nw (.arrayOver (.array t)) U := by
  unfold va_Nw Cond.before Cond.holds at h ⊢
  simp only [Cond.value, beq_iff_eq] at h ⊢
  rcases hc : u.vm.findClass (FieldType.array t).toString with _ | comp
  · rw [hc] at h
    simp at h
  · rw [hc, Option.bind_some] at h
    obtain ⟨c, hi, h2⟩ := Option.bind_eq_some_iff.mp h
    obtain ⟨k, hk, hb⟩ := Option.map_eq_some_iff.mp h2
    obtain ⟨k', hk', he⟩ := hvm.2.2 _ _ hk
    have hbq : U.vm.bare = u.vm.bare := by first | exact hvm.bare_eq | exact hvm.bare_eq.symm
    have hi' : (U.vm.classes.findIdx? fun (x : Class) => match x.kind with | .array component _ => component == comp | _ => false) = some c := by
      have e1 := va_idx_bare U.vm comp
      have e2 := va_idx_bare u.vm comp
      rw [hbq] at e1
      exact (e1.symm.trans e2).trans hi
    have f1 : U.vm.findClass (FieldType.array t).toString = some comp := by rw [hvm.findClass]; exact hc
    have hkd : k'.kind = k.kind := by rw [he]
    rw [f1, Option.bind_some]
    refine Option.bind_eq_some_iff.mpr ⟨c, hi', Option.map_eq_some_iff.mpr ⟨k', hk', ?_⟩⟩
    rw [hkd]
    rcases hkk : k.kind with _ | _ | ⟨c2, t2⟩ <;> rw [hkk] at hb <;> simp at hb ⊢
    exact ⟨hb.1, by rw [hvm.findClass]; exact hb.2⟩
theorem kM.warm {D : va_G} {cA : Nat → ClassId} {s U : State} (hW : s.WarmedH U.vm) (h : kM D cA s) : kM D cA U := ⟨h.1.warm hW, h.2.1.moved hW.alike, ovr_moved hW.alike h.2.2.1, ovr_moved hW.alike h.2.2.2⟩
theorem kM.call {D : va_G} {cA : Nat → ClassId} {U : State} (a : Array Value) (g : JFrame) (mk : MethodId) (h : kM D cA U) : kM D cA (U.calling g mk a) := ⟨h.1.call a g mk, h.2.1.moved (Vm.Alike.refl U.vm), ovr_moved (Vm.Alike.refl U.vm) h.2.2.1, ovr_moved (Vm.Alike.refl U.vm) h.2.2.2⟩
section NA
variable {p : Program} {l : Launch} {e : Env} {R : Room} {s : State} {m : MethodId} {args : Array Value} {below : List Frame} {meth : Method} {c : Code} {H : Heap} {locs : List Loc} {Z : State → Prop} {cc : ByteArray} {nL pc cells slots : Nat} {own : String} {D : va_G} {cA : Nat → ClassId} {A : Nat → Prop} {ws : va_W} {ls : Array Slot} {rest : List Value} {n k : Int32}
theorem na_I (C : CallFix p m c cc nL s args lwG own) (hK : kA D cA s) (hP : va_P D vwCl ws H) (hD : va_D A ws) (hS : va_S A s.heap H locs) (hA : ∀ q, s.heap.size ≤ q → A q) (N : Nat) (hn : ¬ n < 0) (hN : n.toNatClampNeg = N) (hb : N * 4 ≤ 536870912) (hc : cells + 1 ≤ R.cells) (hs : slots + N ≤ R.slots) (hdg : decode cc pc = .ok (.newarray .int, 2))
    (kk : ∀ (q : Nat) (H1 : Heap), va_P D vwCl (ws ++ [(q, .inl (cA 0, N, .inl (fun _ => 0)))]) H1 → va_D A (ws ++ [(q, .inl (cA 0, N, .inl (fun _ => 0)))]) → va_S A s.heap H1 locs → W p l e R s m args below meth c H1 locs (cells + 1) (slots + N) Z (F0 m (pc + 2) ls (.ref q :: rest))) : W p l e R s m args below meth c H locs cells slots Z (F0 m pc ls (.int n :: rest)) := by
  refine va_newa (atype := .int) C.1 C.2.1 (C.2.2.2.2 _ lar_int) (ty := .int) rfl hK.1 hP hD hS hA (a0 := (N, .inl (fun _ => 0))) (fun cB => rfl) hn hN hb hc hs hdg (fun q cB H1 hK1 hP1 hD1 hS1 => ?_)
  have e1 : s.vm.findClass ("[" ++ (FieldType.int).toString) = some cB := (hK1.2 6 (cB, .int) rfl).2
  have e2 : s.vm.findClass ("[" ++ (FieldType.int).toString) = some (cA 0) := (hK.1.2 0 (cA 0, .int) rfl).2
  cases e1.symm.trans e2
  exact kk q H1 hP1 hD1 hS1
theorem na_J (C : CallFix p m c cc nL s args lwG own) (hK : kA D cA s) (hP : va_P D vwCl ws H) (hD : va_D A ws) (hS : va_S A s.heap H locs) (hA : ∀ q, s.heap.size ≤ q → A q) (N : Nat) (hn : ¬ n < 0) (hN : n.toNatClampNeg = N) (hb : N * 8 ≤ 536870912) (hc : cells + 1 ≤ R.cells) (hs : slots + N ≤ R.slots) (hdg : decode cc pc = .ok (.newarray .long, 2))
    (kk : ∀ (q : Nat) (H1 : Heap), va_P D vwCl (ws ++ [(q, .inl (cA 1, N, .inr (.inl (fun _ => 0))))]) H1 → va_D A (ws ++ [(q, .inl (cA 1, N, .inr (.inl (fun _ => 0))))]) → va_S A s.heap H1 locs → W p l e R s m args below meth c H1 locs (cells + 1) (slots + N) Z (F0 m (pc + 2) ls (.ref q :: rest))) : W p l e R s m args below meth c H locs cells slots Z (F0 m pc ls (.int n :: rest)) := by
  refine va_newa (atype := .long) C.1 C.2.1 (C.2.2.2.2 _ lar_long) (ty := .long) rfl hK.1 hP hD hS hA (a0 := (N, .inr (.inl (fun _ => 0)))) (fun cB => rfl) hn hN hb hc hs hdg (fun q cB H1 hK1 hP1 hD1 hS1 => ?_)
  have e1 : s.vm.findClass ("[" ++ (FieldType.long).toString) = some cB := (hK1.2 6 (cB, .long) rfl).2
  have e2 : s.vm.findClass ("[" ++ (FieldType.long).toString) = some (cA 1) := (hK.1.2 1 (cA 1, .long) rfl).2
  cases e1.symm.trans e2
  exact kk q H1 hP1 hD1 hS1
theorem na_Z (C : CallFix p m c cc nL s args lwG own) (hK : kA D cA s) (hP : va_P D vwCl ws H) (hD : va_D A ws) (hS : va_S A s.heap H locs) (hA : ∀ q, s.heap.size ≤ q → A q) (N : Nat) (hn : ¬ n < 0) (hN : n.toNatClampNeg = N) (hb : N * 1 ≤ 536870912) (hc : cells + 1 ≤ R.cells) (hs : slots + N ≤ R.slots) (hdg : decode cc pc = .ok (.newarray .boolean, 2))
    (kk : ∀ (q : Nat) (H1 : Heap), va_P D vwCl (ws ++ [(q, .inl (cA 2, N, .inl (fun _ => 0)))]) H1 → va_D A (ws ++ [(q, .inl (cA 2, N, .inl (fun _ => 0)))]) → va_S A s.heap H1 locs → W p l e R s m args below meth c H1 locs (cells + 1) (slots + N) Z (F0 m (pc + 2) ls (.ref q :: rest))) : W p l e R s m args below meth c H locs cells slots Z (F0 m pc ls (.int n :: rest)) := by
  refine va_newa (atype := .boolean) C.1 C.2.1 (C.2.2.2.2 _ lar_boolean) (ty := .boolean) rfl hK.1 hP hD hS hA (a0 := (N, .inl (fun _ => 0))) (fun cB => rfl) hn hN hb hc hs hdg (fun q cB H1 hK1 hP1 hD1 hS1 => ?_)
  have e1 : s.vm.findClass ("[" ++ (FieldType.boolean).toString) = some cB := (hK1.2 6 (cB, .boolean) rfl).2
  have e2 : s.vm.findClass ("[" ++ (FieldType.boolean).toString) = some (cA 2) := (hK.1.2 2 (cA 2, .boolean) rfl).2
  cases e1.symm.trans e2
  exact kk q H1 hP1 hD1 hS1
theorem nq_L (C : CallFix p m c cc nL s args lwG own) (hK : kM D cA s) (hP : va_P D vwCl ws H) (hD : va_D A ws) (hS : va_S A s.heap H locs) (hA : ∀ q, s.heap.size ≤ q → A q) (N : Nat) {index : Nat} (hl : Cond.classLink own index RX1 ∈ lwG) (hn : ¬ n < 0) (hN : n.toNatClampNeg = N) (hb : N * 4 ≤ 536870912) (hc : cells + 1 ≤ R.cells) (hs : slots + N ≤ R.slots) (hdg : decode cc pc = .ok (.anewarray index, 3))
    (kk : ∀ (q : Nat) (H1 : Heap), va_P D vwCl (ws ++ [(q, .inl (cA 3, N, oq (fun _ => none)))]) H1 → va_D A (ws ++ [(q, .inl (cA 3, N, oq (fun _ => none)))]) → va_S A s.heap H1 locs → W p l e R s m args below meth c H1 locs (cells + 1) (slots + N) Z (F0 m (pc + 3) ls (.ref q :: rest))) : W p l e R s m args below meth c H locs cells slots Z (F0 m pc ls (.int n :: rest)) := by
  refine va_newq C.1 C.2.1 C.2.2.2.1 (C.2.2.2.2 _ hl) hK.2.1 hK.1.1 hP hD hS hA hn hN hb hc hs hdg (fun q cB H1 hK1 hP1 hD1 hS1 => ?_)
  obtain ⟨_, _, _, _, _, e1⟩ := (hK1.2 6 (cB, .object RX1) rfl).2
  obtain ⟨_, _, _, _, _, e2⟩ := (hK.1.1.2 3 (cA 3, .object RX1) rfl).2
  cases e1.symm.trans e2
  exact kk q H1 hP1 hD1 hS1
theorem mn_I (C : CallFix p m c cc nL s args lwG own) (hK : kM D cA s) (hP : va_P D vwCl ws H) (hD : va_D A ws) (hS : va_S A s.heap H locs) (hA : ∀ q, s.heap.size ≤ q → A q) (N K : Nat) {index : Nat} (hl : Cond.classLink own index ("[" ++ (FieldType.array .int).toString) ∈ lwG) (hn : ¬ n < 0) (hk : ¬ k < 0) (hN : n.toNatClampNeg = N) (hKK : k.toNatClampNeg = K) (hb1 : N * 4 ≤ 536870912) (hb2 : K * 4 ≤ 536870912) (hc : cells + (1 + N) ≤ R.cells) (hs : slots + (N + N * K) ≤ R.slots) (hdg : decode cc pc = .ok (.multianewarray index 2, 4))
    (kk : ∀ (q : Nat) (H1 : Heap), va_P D vwCl ((ws ++ [(q, .inl (cA 4, N, oq (fun i => some (q + 1 + i))))]) ++ (List.range N).map (fun i => ((q + 1 + i, .inl (cA 0, K, .inl (fun _ => 0))) : Nat × va_E))) H1 → va_D A ((ws ++ [(q, .inl (cA 4, N, oq (fun i => some (q + 1 + i))))]) ++ (List.range N).map (fun i => ((q + 1 + i, .inl (cA 0, K, .inl (fun _ => 0))) : Nat × va_E))) → va_S A s.heap H1 locs → W p l e R s m args below meth c H1 locs (cells + 1 + N) (slots + N + N * K) Z (F0 m (pc + 4) ls (.ref q :: rest))) : W p l e R s m args below meth c H locs cells slots Z (F0 m pc ls (.int k :: .int n :: rest)) := by
  subst hN
  subst hKK
  refine W_mna C.1 C.2.1 C.2.2.2.1 (C.2.2.2.2 _ hl) (show (Cond.arrayOver (.array .int)).before args s = true from hK.2.2.1) (C.2.2.2.2 _ lar_int) hn hk hb1 hb2 (by omega) rfl rfl hc hs hdg hS.1 (fun H1 cB cD fB fD hz hO hI hold => ?_)
  have e2 : s.vm.findClass ("[" ++ (FieldType.array .int).toString) = some (cA 4) := (hK.1.1.2 4 (cA 4, .array .int) rfl).2
  cases fB.symm.trans e2
  have e3 : s.vm.findClass (FieldType.array .int).toString = some (cA 0) := (hK.1.1.2 0 (cA 0, .int) rfl).2
  cases fD.symm.trans e3
  have hrw : ∀ (i : Nat) (x : Nat × va_E), ((List.range n.toNatClampNeg).map (fun i => ((H.size + 1 + i, .inl (cA 0, k.toNatClampNeg, .inl (fun _ => 0))) : Nat × va_E)))[i]? = some x → i < n.toNatClampNeg ∧ x = (H.size + 1 + i, .inl (cA 0, k.toNatClampNeg, .inl (fun _ => 0))) := by
    intro i x hx
    rw [List.getElem?_map] at hx
    by_cases hi : i < n.toNatClampNeg
    · rw [List.getElem?_range hi] at hx
      cases hx
      exact ⟨hi, rfl⟩
    · rw [List.getElem?_eq_none (by rw [List.length_range]; omega)] at hx
      cases hx
  have hP1 : va_P D vwCl ws H1 := hP.kept (fun i x hx => hold x.1 ((hP i x hx).lt))
  have hout : ∀ (i : Nat) (x : Nat × va_E), ([(H.size, .inl (cA 4, n.toNatClampNeg, oq (fun i => some (H.size + 1 + i))))] : va_W)[i]? = some x → i = 0 ∧ x = (H.size, .inl (cA 4, n.toNatClampNeg, oq (fun i => some (H.size + 1 + i)))) := by
    intro i x hx
    have h0 : i < 1 := (List.getElem?_eq_some_iff.mp hx).1
    have h1 : i = 0 := by omega
    subst h1
    cases hx
    exact ⟨rfl, rfl⟩
  refine kk H.size H1 ((hP1.app (fun i x hx => ?_)).app (fun i x hx => ?_)) ?_ ⟨Nat.le_trans hS.1 (by omega), fun q h1 h2 => (hold q (Nat.lt_of_lt_of_le h1 hS.1)).trans (hS.2.1 q h1 h2), hS.2.2⟩
  · obtain ⟨-, rfl⟩ := hout i x hx
    show H1[H.size]? = some (vp_cell _ _)
    rw [hO, vp_cell_q]
    exact congrArg some (arrV_congr _ (fun j hj => by rw [if_pos hj]; rfl))
  · obtain ⟨hi, rfl⟩ := hrw i x hx
    exact hI i hi
  · refine va_D.app (va_D.app hD ⟨fun i j x y hx hy _ => ?_, fun i x hx => ?_⟩ (fun i j x y hx hy e => ?_)) ⟨fun i j x y hx hy e => ?_, fun i x hx => ?_⟩ (fun i j x y hx hy e => ?_)
    · obtain ⟨r1, -⟩ := hout i x hx
      obtain ⟨r2, -⟩ := hout j y hy
      omega
    · obtain ⟨-, rfl⟩ := hout i x hx
      exact hA _ hS.1
    · obtain ⟨-, rfl⟩ := hout j y hy
      have := (hP i x hx).lt
      have e' : x.1 = H.size := e
      omega
    · obtain ⟨-, rfl⟩ := hrw i x hx
      obtain ⟨-, rfl⟩ := hrw j y hy
      have e' : H.size + 1 + i = H.size + 1 + j := e
      omega
    · obtain ⟨-, rfl⟩ := hrw i x hx
      exact hA _ (by have := hS.1; show s.heap.size ≤ H.size + 1 + i; omega)
    · obtain ⟨-, rfl⟩ := hrw j y hy
      have e' : x.1 = H.size + 1 + j := e
      rcases Nat.lt_or_ge i ws.length with hl | hl
      · rw [List.getElem?_append_left hl] at hx
        have := (hP i x hx).lt
        omega
      · rw [List.getElem?_append_right hl] at hx
        obtain ⟨-, rfl⟩ := hout _ x hx
        have e'' : H.size = H.size + 1 + j := e'
        omega
theorem mn_J (C : CallFix p m c cc nL s args lwG own) (hK : kM D cA s) (hP : va_P D vwCl ws H) (hD : va_D A ws) (hS : va_S A s.heap H locs) (hA : ∀ q, s.heap.size ≤ q → A q) (N K : Nat) {index : Nat} (hl : Cond.classLink own index ("[" ++ (FieldType.array .long).toString) ∈ lwG) (hn : ¬ n < 0) (hk : ¬ k < 0) (hN : n.toNatClampNeg = N) (hKK : k.toNatClampNeg = K) (hb1 : N * 4 ≤ 536870912) (hb2 : K * 8 ≤ 536870912) (hc : cells + (1 + N) ≤ R.cells) (hs : slots + (N + N * K) ≤ R.slots) (hdg : decode cc pc = .ok (.multianewarray index 2, 4))
    (kk : ∀ (q : Nat) (H1 : Heap), va_P D vwCl ((ws ++ [(q, .inl (cA 5, N, oq (fun i => some (q + 1 + i))))]) ++ (List.range N).map (fun i => ((q + 1 + i, .inl (cA 1, K, .inr (.inl (fun _ => 0)))) : Nat × va_E))) H1 → va_D A ((ws ++ [(q, .inl (cA 5, N, oq (fun i => some (q + 1 + i))))]) ++ (List.range N).map (fun i => ((q + 1 + i, .inl (cA 1, K, .inr (.inl (fun _ => 0)))) : Nat × va_E))) → va_S A s.heap H1 locs → W p l e R s m args below meth c H1 locs (cells + 1 + N) (slots + N + N * K) Z (F0 m (pc + 4) ls (.ref q :: rest))) : W p l e R s m args below meth c H locs cells slots Z (F0 m pc ls (.int k :: .int n :: rest)) := by
  subst hN
  subst hKK
  refine W_mna C.1 C.2.1 C.2.2.2.1 (C.2.2.2.2 _ hl) (show (Cond.arrayOver (.array .long)).before args s = true from hK.2.2.2) (C.2.2.2.2 _ lar_long) hn hk hb1 hb2 (by omega) rfl rfl hc hs hdg hS.1 (fun H1 cB cD fB fD hz hO hI hold => ?_)
  have e2 : s.vm.findClass ("[" ++ (FieldType.array .long).toString) = some (cA 5) := (hK.1.1.2 5 (cA 5, .array .long) rfl).2
  cases fB.symm.trans e2
  have e3 : s.vm.findClass (FieldType.array .long).toString = some (cA 1) := (hK.1.1.2 1 (cA 1, .long) rfl).2
  cases fD.symm.trans e3
  have hrw : ∀ (i : Nat) (x : Nat × va_E), ((List.range n.toNatClampNeg).map (fun i => ((H.size + 1 + i, .inl (cA 1, k.toNatClampNeg, .inr (.inl (fun _ => 0)))) : Nat × va_E)))[i]? = some x → i < n.toNatClampNeg ∧ x = (H.size + 1 + i, .inl (cA 1, k.toNatClampNeg, .inr (.inl (fun _ => 0)))) := by
    intro i x hx
    rw [List.getElem?_map] at hx
    by_cases hi : i < n.toNatClampNeg
    · rw [List.getElem?_range hi] at hx
      cases hx
      exact ⟨hi, rfl⟩
    · rw [List.getElem?_eq_none (by rw [List.length_range]; omega)] at hx
      cases hx
  have hP1 : va_P D vwCl ws H1 := hP.kept (fun i x hx => hold x.1 ((hP i x hx).lt))
  have hout : ∀ (i : Nat) (x : Nat × va_E), ([(H.size, .inl (cA 5, n.toNatClampNeg, oq (fun i => some (H.size + 1 + i))))] : va_W)[i]? = some x → i = 0 ∧ x = (H.size, .inl (cA 5, n.toNatClampNeg, oq (fun i => some (H.size + 1 + i)))) := by
    intro i x hx
    have h0 : i < 1 := (List.getElem?_eq_some_iff.mp hx).1
    have h1 : i = 0 := by omega
    subst h1
    cases hx
    exact ⟨rfl, rfl⟩
  refine kk H.size H1 ((hP1.app (fun i x hx => ?_)).app (fun i x hx => ?_)) ?_ ⟨Nat.le_trans hS.1 (by omega), fun q h1 h2 => (hold q (Nat.lt_of_lt_of_le h1 hS.1)).trans (hS.2.1 q h1 h2), hS.2.2⟩
  · obtain ⟨-, rfl⟩ := hout i x hx
    show H1[H.size]? = some (vp_cell _ _)
    rw [hO, vp_cell_q]
    exact congrArg some (arrV_congr _ (fun j hj => by rw [if_pos hj]; rfl))
  · obtain ⟨hi, rfl⟩ := hrw i x hx
    exact hI i hi
  · refine va_D.app (va_D.app hD ⟨fun i j x y hx hy _ => ?_, fun i x hx => ?_⟩ (fun i j x y hx hy e => ?_)) ⟨fun i j x y hx hy e => ?_, fun i x hx => ?_⟩ (fun i j x y hx hy e => ?_)
    · obtain ⟨r1, -⟩ := hout i x hx
      obtain ⟨r2, -⟩ := hout j y hy
      omega
    · obtain ⟨-, rfl⟩ := hout i x hx
      exact hA _ hS.1
    · obtain ⟨-, rfl⟩ := hout j y hy
      have := (hP i x hx).lt
      have e' : x.1 = H.size := e
      omega
    · obtain ⟨-, rfl⟩ := hrw i x hx
      obtain ⟨-, rfl⟩ := hrw j y hy
      have e' : H.size + 1 + i = H.size + 1 + j := e
      omega
    · obtain ⟨-, rfl⟩ := hrw i x hx
      exact hA _ (by have := hS.1; show s.heap.size ≤ H.size + 1 + i; omega)
    · obtain ⟨-, rfl⟩ := hrw j y hy
      have e' : x.1 = H.size + 1 + j := e
      rcases Nat.lt_or_ge i ws.length with hl | hl
      · rw [List.getElem?_append_left hl] at hx
        have := (hP i x hx).lt
        omega
      · rw [List.getElem?_append_right hl] at hx
        obtain ⟨-, rfl⟩ := hout _ x hx
        have e'' : H.size = H.size + 1 + j := e'
        omega
end NA
