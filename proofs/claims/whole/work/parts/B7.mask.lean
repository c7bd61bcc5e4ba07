/-! KNOWN: the cells put away, and others put in. -/
section MASK
theorem n_hi {n : Nat} (hn : n < 2 ^ 64) : n &&& ((2 ^ 28 - 1) <<< 36) = (n >>> 36) <<< 36 := by
  apply Nat.eq_of_testBit_eq
  intro i
  rw [Nat.testBit_and, Nat.testBit_shiftLeft, Nat.testBit_shiftLeft, Nat.testBit_shiftRight, Nat.testBit_two_pow_sub_one]
  by_cases h : 36 ≤ i
  · rw [Nat.add_sub_cancel' h]
    by_cases q : i - 36 < 28
    · simp [h, q]
    · have : n.testBit i = false := Nat.testBit_lt_two_pow (Nat.lt_of_lt_of_le hn (Nat.pow_le_pow_right (by decide) (by omega)))
      rw [this]
      simp
  · simp [h]
theorem lN_hi {n : Nat} (hn : n < 2 ^ 64) : lN n &&& (-68719476736) = lN (n / 2 ^ 36 * 2 ^ 36) := by
  have e : (-68719476736 : Int64) = lN ((2 ^ 28 - 1) <<< 36) := by decide
  rw [e, wb_and hn (by decide), n_hi hn, Nat.shiftLeft_eq, Nat.shiftRight_eq_div_pow]
end MASK
