/-! KNOWN: the class's spread. -/
section CSPREAD
variable {N : Nat} {S : St} {M : Mt}
theorem lus_d64 {n i : Nat} (hn : n < 2 ^ 62) (hi : i < 20) : lus (lN n) (nI (3 * i)) &&& 7 = lN (dg n i) := by
  rw [lus_n (by omega) (by omega), show (7 : Int64) = lN (2 ^ 3 - 1) by decide, wb_mask (Nat.lt_of_le_of_lt (Nat.div_le_self _ _) (by omega)) (by decide), p8]
  rfl
theorem tC_s4 {m : Mm} {rec : Int64 → Int64 → Int32 → Int32 → Nat → Mm → Option (Int64 × Mm)} {x1 : Int64} {x5 x6 : Int32} {x7 t d' : Nat} (ht : t < 8 ^ 13) (hd : d' < 8) (K : Int32 → Option (Int64 × Mm)) : ∀ (r i fuel : Nat), i + r = 12 → r < fuel → ∃ a, i ≤ a ∧ a ≤ 12 ∧ (∀ k, i ≤ k → k < a → dg t k = 0) ∧ (a < 12 → 0 < dg t a) ∧ f_Rows_spread_L4 N S rec x1 (cs t d') x5 x6 x7 m K fuel (nI i) = K (nI a) := by
  intro r
  have hb := cs_lt2 ht hd
  induction r with
  | zero =>
    intro i fuel hi hf
    obtain ⟨f, rfl⟩ : ∃ q, fuel = q + 1 := ⟨fuel - 1, by omega⟩
    refine ⟨i, Nat.le_refl _, by omega, fun k h1 h2 => by omega, fun h => by omega, ?_⟩
    rw [f_Rows_spread_L4, if_pos (show (12 : Int32) ≤ nI i from nI_le (a := 12) (by omega) (by omega))]
  | succ r ih =>
    intro i fuel hi hf
    obtain ⟨f, rfl⟩ : ∃ q, fuel = q + 1 := ⟨fuel - 1, by omega⟩
    have e : lus (cs t d') (3 * nI i) &&& 7 = lN (dg t i) := by
      rw [show (3 : Int32) * nI i = nI (3 * i) by rw [show (3 : Int32) = nI 3 from rfl, pk_mul]]
      unfold cs
      rw [lus_d64 (by omega) (by omega), cs_dg (by omega)]
    rw [f_Rows_spread_L4, if_neg (show ¬ (12 : Int32) ≤ nI i from nI_ge (b := 12) (by omega) (by omega)), e]
    by_cases q : dg t i = 0
    · obtain ⟨a, h1, h2, h3, h4, h5⟩ := ih (i + 1) f (by omega) (by omega)
      refine ⟨a, by omega, h2, fun k k1 k2 => ?_, h4, ?_⟩
      · by_cases w : k = i
        · rw [w]; exact q
        · exact h3 k (by omega) k2
      · rw [q, if_pos (show lN 0 = 0 from rfl), nI_1]
        exact h5
    · have := dg_lt t i
      exact ⟨i, Nat.le_refl _, by omega, fun k h1 h2 => by omega, fun _ => Nat.pos_of_ne_zero q, by rw [if_neg (lN_0 (by omega) (by omega))]⟩
end CSPREAD
