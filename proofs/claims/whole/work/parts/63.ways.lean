/-! sums over sets -/
def cs (c W : Nat → Nat) (e : Nat) : Nat := fo (fun p x => x + c p * W p) 0 e
def wtF (pr : Nat → Bool) (pl w : Nat → Nat) (s : Nat) (W : Nat → Nat) (q : Nat) : Nat := if pr s = true ∧ q = pl s then W q + w s else W q
def hF (pr : Nat → Bool) (pl w c : Nat → Nat) (s : Nat) : Nat := if pr s = true then c (pl s) * w s else 0
def sN (H : Nat → Nat) (e : Nat) : Nat := fo (fun s x => x + H s) 0 e
theorem cs_s (c W : Nat → Nat) (e : Nat) : cs c W (e + 1) = cs c W e + c e * W e := rfl
theorem sN_s (H : Nat → Nat) (e : Nat) : sN H (e + 1) = sN H e + H e := rfl
theorem cs_upd (pr : Nat → Bool) (pl w c W : Nat → Nat) (s : Nat) : ∀ e, cs c (wtF pr pl w s W) e = cs c W e + (if pr s = true ∧ pl s < e then c (pl s) * w s else 0)
  | 0 => by
    rw [if_neg (by omega)]
    rfl
  | e + 1 => by
    rw [cs_s, cs_s, cs_upd pr pl w c W s e]
    by_cases h : pr s = true
    · by_cases h2 : e = pl s
      · have e1 : wtF pr pl w s W e = W e + w s := if_pos ⟨h, h2⟩
        have e2 : (if pr s = true ∧ pl s < e then c (pl s) * w s else 0) = 0 := if_neg (by omega)
        have e3 : (if pr s = true ∧ pl s < e + 1 then c (pl s) * w s else 0) = c (pl s) * w s := if_pos ⟨h, by omega⟩
        rw [e1, e2, e3, Nat.mul_add, ← h2]
        omega
      · have e1 : wtF pr pl w s W e = W e := if_neg (fun h9 => h2 h9.2)
        rw [e1]
        by_cases h3 : pl s < e
        · have e2 : (if pr s = true ∧ pl s < e then c (pl s) * w s else 0) = c (pl s) * w s := if_pos ⟨h, h3⟩
          have e3 : (if pr s = true ∧ pl s < e + 1 then c (pl s) * w s else 0) = c (pl s) * w s := if_pos ⟨h, by omega⟩
          rw [e2, e3]
          omega
        · have e2 : (if pr s = true ∧ pl s < e then c (pl s) * w s else 0) = 0 := if_neg (fun h9 => h3 h9.2)
          have e3 : (if pr s = true ∧ pl s < e + 1 then c (pl s) * w s else 0) = 0 := if_neg (fun h9 => by have := h9.2; omega)
          rw [e2, e3]
          omega
    · have e1 : wtF pr pl w s W e = W e := if_neg (fun h9 => h h9.1)
      have e2 : ∀ q : Prop, [Decidable q] → (if pr s = true ∧ q then c (pl s) * w s else 0) = 0 := fun q _ => if_neg (fun h9 => h h9.1)
      rw [e1, e2, e2]
      omega
theorem cs_0 (c : Nat → Nat) : ∀ e, cs c (fun _ => 0) e = 0
  | 0 => rfl
  | e + 1 => by
    rw [cs_s, cs_0 c e]
    simp
theorem cs_all (pr : Nat → Bool) (pl w c : Nat → Nat) (hpl : ∀ s, pl s < 21) : ∀ E, cs c (fo (wtF pr pl w) (fun _ => 0) E) 21 = sN (hF pr pl w c) E
  | 0 => cs_0 c 21
  | E + 1 => by
    show cs c (wtF pr pl w E (fo (wtF pr pl w) (fun _ => 0) E)) 21 = _
    rw [cs_upd, cs_all pr pl w c hpl E, sN_s]
    unfold hF
    by_cases h : pr E = true
    · rw [if_pos ⟨h, hpl E⟩, if_pos h]
    · rw [if_neg (fun h9 => h h9.1), if_neg h]
theorem sN_list (H : Nat → Nat) : ∀ e, sN H e = ((List.range e).map H).sum
  | 0 => rfl
  | e + 1 => by
    rw [sN_s, sN_list H e, List.range_succ, List.map_append, List.sum_append]
    simp
theorem perm_sum {l1 l2 : List Nat} (h : l1.Perm l2) : l1.sum = l2.sum := by
  induction h with
  | nil => rfl
  | cons x h ih => simp [ih]
  | swap x y l => simp; omega
  | trans h1 h2 ih1 ih2 => exact ih1.trans ih2
theorem xperm : ∀ n, n < 7 → ∀ a, a < 2 ^ n → ((List.range (2 ^ n)).map (fun s => a ^^^ s)).isPerm (List.range (2 ^ n)) = true := by decide +kernel
theorem sN_xor (H : Nat → Nat) {n a : Nat} (hn : n ≤ 6) (ha : a < 2 ^ n) : sN (fun s => H (a ^^^ s)) (2 ^ n) = sN H (2 ^ n) := by
  have hp := List.isPerm_iff.mp (xperm n (by omega) a ha)
  rw [sN_list, sN_list, ← perm_sum (hp.map H), List.map_map]
  rfl
theorem sN_le (H : Nat → Nat) (B : Nat) (h : ∀ s, H s ≤ B) : ∀ e, sN H e ≤ e * B
  | 0 => Nat.zero_le _
  | e + 1 => by
    rw [sN_s, Nat.succ_mul]
    have := sN_le H B h e
    have := h e
    omega
theorem sN_congr {H G : Nat → Nat} {e : Nat} (h : ∀ s, s < e → H s = G s) : sN H e = sN G e := fo_congr (fun i hi b => by rw [h i hi])
