/-! KNOWN: the state that a trace ends in. -/
section MASK3
variable {N : Nat}
theorem tC_ending {c d t d' : Nat} (hc : c < 8 ^ 13) (hd : d < 8) (ht : t < 8 ^ 13) (hd' : d' < 8) : f_Rows_ending N (cs c d) (cs t d') = some (cs (bas c t) d') := by
  have hb := cs_lt2 hc hd
  have e : (2 : Nat) ^ 36 = 8 ^ 12 := by decide
  have hl : c % 8 ^ 12 < 2 ^ 36 := by rw [e]; exact Nat.mod_lt _ (p8_pos 12)
  have h1 : cs c d &&& 68719476735 = lN (c % 8 ^ 12) := by
    unfold cs
    rw [show (68719476735 : Int64) = lN (2 ^ 36 - 1) by decide, wb_mask (by omega) (by decide), e, Nat.pow_succ 8 12, ← Nat.mul_assoc, Nat.mul_right_comm, Nat.add_mul_mod_self_right]
  have h8 := dg_lt t 12
  have h3 : dg t 12 * 8 ^ 12 + d' * 8 ^ 13 = (dg t 12 + 8 * d') <<< 36 := by
    rw [Nat.shiftLeft_eq, e, Nat.add_mul, Nat.pow_succ 8 12, Nat.mul_comm 8 d', Nat.mul_assoc d' 8, Nat.mul_comm 8 (8 ^ 12)]
  have h4 : (dg t 12 + 8 * d') <<< 36 < 2 ^ 64 := by
    rw [Nat.shiftLeft_eq]
    have : (dg t 12 + 8 * d') * 2 ^ 36 ≤ 63 * 2 ^ 36 := Nat.mul_le_mul_right _ (by omega)
    omega
  unfold f_Rows_ending
  rw [h1, cs_hi ht hd']
  unfold cs bas
  rw [h3, wb_or (by omega) h4, Nat.or_comm, ← Nat.shiftLeft_add_eq_or_of_lt hl, ← h3, Nat.add_assoc, Nat.add_comm (c % 8 ^ 12), Nat.add_comm (d' * 8 ^ 13), ← Nat.add_assoc]
end MASK3
