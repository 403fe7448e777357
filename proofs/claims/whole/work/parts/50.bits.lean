/-! bits of a long -/
def lb (w : Int64) (m : Nat) : Bool := w.toBitVec.getLsbD m
theorem lb_or (a b : Int64) (m : Nat) : lb (a ||| b) m = (lb a m || lb b m) := by
  unfold lb
  rw [Int64.toBitVec_or, BitVec.getLsbD_or]
theorem lb_0 (m : Nat) : lb 0 m = false := by
  unfold lb
  show (0#64).getLsbD m = false
  simp
theorem lb_one : ∀ m, m < 61 → ∀ k, k < 61 → lb ((1 : Int64) <<< ((nI m).toInt64 &&& 63)) k = decide (k = m) := by decide +kernel
theorem sh63 : ∀ m, m < 64 → ((nI m).toInt64.toUInt64 &&& Int64.toUInt64 63) = UInt64.ofNat m := by decide +kernel
theorem lb_test (w : Int64) {m : Nat} (hm : m < 60) : (lg_cmp (((w.toUInt64 >>> ((nI m).toInt64.toUInt64 &&& Int64.toUInt64 63)).toInt64) &&& (1 : Int64)) (0 : Int64)) = 0 ↔ lb w m = false := by
  have e1 : ∀ x : Int64, lg_cmp x 0 = 0 ↔ x = 0 := by
    intro x
    unfold lg_cmp
    grind
  rw [e1, sh63 m (by omega)]
  unfold lb
  have e2 : ((w.toUInt64 >>> UInt64.ofNat m).toInt64 &&& (1 : Int64)).toBitVec = (w.toBitVec >>> m) &&& 1#64 := by
    rw [Int64.toBitVec_and]
    congr 1
    show (w.toUInt64 >>> UInt64.ofNat m).toBitVec = _
    rw [UInt64.toBitVec_shiftRight]
    show w.toBitVec >>> _ = _
    have e3 : ((UInt64.ofNat m).toBitVec % 64).toNat = m := by
      simp
      omega
    apply BitVec.eq_of_toNat_eq
    rw [BitVec.toNat_ushiftRight]
    show (w.toBitVec >>> ((UInt64.ofNat m).toBitVec % 64)).toNat = _
    rw [show (w.toBitVec >>> ((UInt64.ofNat m).toBitVec % 64)) = w.toBitVec >>> ((UInt64.ofNat m).toBitVec % 64).toNat from rfl, e3, BitVec.toNat_ushiftRight]
  constructor
  · intro h
    rw [h] at e2
    have e4 := congrArg (fun b => b.getLsbD 0) e2
    simp at e4
    exact e4
  · intro h
    apply Int64.toBitVec_inj.mp
    rw [e2]
    apply BitVec.eq_of_getLsbD_eq
    intro i hi
    rw [BitVec.getLsbD_and]
    rcases Nat.eq_zero_or_pos i with rfl | h0
    · simp [h]
    · have : (1#64).getLsbD i = false := by
        simp
        omega
      rw [this]
      simp
