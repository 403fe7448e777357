/-- weights -/
def wgt (p a s : Nat) : Nat := p ^ pc (a ^^^ s) * (12 - p) ^ pc s
theorem wgt_le (p a s : Nat) (hp : p ≤ 12) : wgt p a s ≤ 12 ^ 12 := by
  unfold wgt
  have h1 : p ^ pc (a ^^^ s) ≤ 12 ^ pc (a ^^^ s) := Nat.pow_le_pow_left hp _
  have h2 : (12 - p) ^ pc s ≤ 12 ^ pc s := Nat.pow_le_pow_left (by omega) _
  have h3 : 12 ^ pc (a ^^^ s) ≤ 12 ^ 6 := Nat.pow_le_pow_right (by decide) (pc_le _)
  have h4 : 12 ^ pc s ≤ 12 ^ 6 := Nat.pow_le_pow_right (by decide) (pc_le _)
  exact Nat.le_trans (Nat.mul_le_mul (Nat.le_trans h1 h3) (Nat.le_trans h2 h4)) (by decide)
def c1F (a s i x : Nat) : Nat := if bt a i = true ∧ bt s i = true then x + 1 else x
def c2F (a s i x : Nat) : Nat := if bt a i = true ∧ bt s i = false then x + 1 else x
theorem cnt_tab : ∀ n, n < 7 → ∀ a, a < 2 ^ n → ∀ s, s < 2 ^ n → prt s a = true → fo (c1F a s) 0 n = pc s ∧ fo (c2F a s) 0 n = pc (a ^^^ s) := by decide +kernel
theorem prt_x : ∀ n, n < 7 → ∀ a, a < 2 ^ n → ∀ s, s < 2 ^ n → prt (a ^^^ s) a = prt s a := by decide +kernel
theorem xx (a s : Nat) : a ^^^ (a ^^^ s) = s := by rw [← Nat.xor_assoc, Nat.xor_self, Nat.zero_xor]
