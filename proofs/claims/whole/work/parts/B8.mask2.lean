/-! KNOWN: where a trace begins, and the state that it ends in. -/
section MASK2
variable {N : Nat}
theorem cs_hi {c d : Nat} (hc : c < 8 ^ 13) (hd : d < 8) : cs c d &&& (-68719476736) = cs (dg c 12 * 8 ^ 12) d := by
  have hb := cs_lt2 hc hd
  have e : (2 : Nat) ^ 36 = 8 ^ 12 := by decide
  have h2 : c / 8 ^ 12 < 8 := by
    rw [Nat.div_lt_iff_lt_mul (Nat.pow_pos (by decide)), Nat.mul_comm, ← Nat.pow_succ]
    exact hc
  have h3 : (c + d * 8 ^ 13) / 8 ^ 12 = c / 8 ^ 12 + d * 8 := by
    rw [Nat.pow_succ 8 12, ← Nat.mul_assoc, Nat.mul_right_comm, Nat.add_mul_div_right _ _ (p8_pos 12)]
  unfold cs
  rw [lN_hi (by omega), e, h3]
  unfold dg
  rw [Nat.mod_eq_of_lt h2, Nat.add_mul, Nat.mul_assoc d 8, Nat.mul_comm 8 (8 ^ 12), ← Nat.pow_succ]
end MASK2
