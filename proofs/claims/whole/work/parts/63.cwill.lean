/-! What the class's Will answers. -/
section CWILL
variable {N : Nat} {S : St} {x : Nat} {m : Mm} {M : Mt}
theorem tW_isAlt (hM : qOk M) (hW : CW m x M) {d a : Nat} (hd : d < 8) (ha : a < 4) : f_Will_isAlt N S x (nI d) (nI a) m = some (tf (decide (d < qD M) && decide (a < qA M d))) := by
  have hD := hM.2.1
  unfold f_Will_isAlt
  rw [if_neg (nI_pos (by omega)), hW.2.1]
  by_cases h1 : d < qD M
  · have hA := hW.2.2.2.2.2.2.1 d h1
    have hA2 : qA M d ≤ 3 := (hM.2.2.2.2.2.2.1 d h1).2
    rw [if_neg (nI_ge h1 (by omega)), if_neg (nI_pos (by omega)), ck_t (nI_in (by omega) (by omega)), nI_clamp (by omega), hA]
    by_cases h2 : a < qA M d
    · rw [if_neg (nI_ge h2 (by omega))]
      simp [h1, h2, tf]
    · rw [if_pos (nI_le (by omega) (by omega))]
      simp [h2, tf]
  · rw [if_pos (nI_le (by omega) (by omega))]
    simp [h1, tf]
theorem tW_alts (hM : qOk M) (hW : CW m x M) {d : Nat} (hd : d < qD M) : f_Will_alts N S x (nI d) m = some (nI (qA M d)) := by
  have hD := hM.2.1
  unfold f_Will_alts
  rw [if_neg (nI_pos (by omega)), hW.2.1, if_neg (nI_ge hd (by omega)), ck_t (nI_in (by omega) (by omega)), nI_clamp (by omega), hW.2.2.2.2.2.2.1 d hd]
theorem w_ix (d a : Nat) : nI d * 3 + nI a = nI (3 * d + a) := by
  show nI d * nI 3 + nI a = _
  rw [pk_mul, nI_add, Nat.mul_comm]
theorem tW_kind (hM : qOk M) (hW : CW m x M) {d a : Nat} (hd : d < qD M) (ha : a < qA M d) : f_Will_kind N S x (nI d) (nI a) m = some (nI (qK M d a)) := by
  have hD := hM.2.1
  have hA := (hM.2.2.2.2.2.2.1 d hd).2
  unfold f_Will_kind
  rw [tW_isAlt hM hW (by omega) (by omega), b1_s, if_neg (by simp [hd, ha, tf]), w_ix, ck_t (nI_in (by omega) (by omega)), nI_clamp (by omega), (hW.2.2.2.2.2.2.2 d a hd ha).2.1]
theorem tW_target (hM : qOk M) (hW : CW m x M) {d a : Nat} (hd : d < qD M) (ha : a < qA M d) : f_Will_target N S x (nI d) (nI a) m = some (qT M d a) := by
  have hD := hM.2.1
  have hA := (hM.2.2.2.2.2.2.1 d hd).2
  unfold f_Will_target
  rw [tW_isAlt hM hW (by omega) (by omega), b1_s, if_neg (by simp [hd, ha, tf]), w_ix, ck_t (nI_in (by omega) (by omega)), nI_clamp (by omega), (hW.2.2.2.2.2.2.2 d a hd ha).2.2]
theorem tW_chance (hM : qOk M) (hW : CW m x M) {d a : Nat} (hd : d < qD M) (ha : a < qA M d) : f_Will_chance N S x (nI d) (nI a) m = some (nI (qC M d a)) := by
  have hD := hM.2.1
  have hA := (hM.2.2.2.2.2.2.1 d hd).2
  unfold f_Will_chance
  rw [tW_isAlt hM hW (by omega) (by omega), b1_s, if_neg (by simp [hd, ha, tf]), w_ix, ck_t (nI_in (by omega) (by omega)), nI_clamp (by omega), (hW.2.2.2.2.2.2.2 d a hd ha).1]
/-- the sort that an alt brings, or none -/
def qS (M : Mt) (d a : Nat) : Int32 := if qK M d a = 0 then nI (qG M d a) else -1
theorem nI_k0 {k : Nat} (h : k ≤ 2) : nI k = 0 ↔ k = 0 := by rw [show (0 : Int32) = nI 0 from rfl, nI_eq (by omega) (by omega)]
theorem nI_k1 {k : Nat} (h : k ≤ 2) : nI k = 1 ↔ k = 1 := by rw [show (1 : Int32) = nI 1 from rfl, nI_eq (by omega) (by omega)]
theorem tW_thing (hM : qOk M) (hW : CW m x M) {d a : Nat} (hd : d < qD M) (ha : a < qA M d) : f_Will_thing N S x (nI d) (nI a) m = some (qS M d a) := by
  have hk := (hM.2.2.2.2.2.2.2 d a hd ha).2.1
  unfold f_Will_thing
  rw [tW_kind hM hW hd ha, b1_s]
  unfold qS
  by_cases h : qK M d a = 0
  · rw [if_pos ((nI_k0 hk).mpr h), tW_target hM hW hd ha, b1_s, if_pos h]
    unfold qT
    rw [if_neg (by omega)]
  · rw [if_neg (fun q => h ((nI_k0 hk).mp q)), if_neg h]
/-- the state when the alt has come -/
def pas (M : Mt) (c d a : Nat) : Nat := if qK M d a = 1 then cme c (qG M d a) else c
theorem tW_passed (hM : qOk M) (hW : CW m x M) {c d a : Nat} (hc : c < 8 ^ 13) (hd : d < qD M) (ha : a < qA M d) : f_Will_passed N S x (cs c d) (nI d) (nI a) m = some (cs (pas M c d a) (d + 1)) := by
  have hD := hM.2.1
  have hk := (hM.2.2.2.2.2.2.2 d a hd ha).2.1
  have hg := (hM.2.2.2.2.2.2.2 d a hd ha).2.2.2
  have e1 : cs c d + 549755813888 = cs c (d + 1) := by
    show lN (c + d * 8 ^ 13) + lN 549755813888 = lN (c + (d + 1) * 8 ^ 13)
    rw [lN_add]
    exact congrArg lN (by omega)
  unfold f_Will_passed
  rw [tW_kind hM hW hd ha, b1_s, e1]
  unfold pas
  by_cases h : qK M d a = 1
  · have hg3 := hg h
    have hH := hM.1
    rw [if_pos ((nI_k1 hk).mpr h), tW_target hM hW hd ha, b1_s, if_pos h]
    unfold qT
    rw [if_neg (by omega), show (36 : Int32) + nI (qG M d a) = nI (36 + qG M d a) from by rw [show (36 : Int32) = nI 36 from rfl, nI_add], show (1 : Int64) = lN 1 from rfl, lsl_n 1 (by omega), Nat.one_mul, cs_or hc (by omega) (by omega)]
  · rw [if_neg (fun q => h ((nI_k1 hk).mp q)), if_neg h]
theorem tW_isHeir (hM : qOk M) (hW : CW m x M) {h : Nat} (hh : h < 2 ^ 30) : f_Will_isHeir N S x (nI h) m = some (tf (decide (h < qH M))) := by
  have hH := hM.1
  unfold f_Will_isHeir
  rw [if_neg (nI_pos (by omega)), hW.1]
  by_cases h1 : h < qH M
  · rw [if_neg (nI_ge h1 (by omega))]
    simp [h1, tf]
  · rw [if_pos (nI_le (by omega) (by omega))]
    simp [h1, tf]
/-- whether a thing may be given so -/
def may (M : Mt) (c to ho : Nat) : Bool := if to = 3 then decide (hl c < ho) else decide (to < qH M) && cb c to
theorem hl_lt (c : Nat) : hl c < 24 := by
  have h0 := am_lt c 0 3
  have h1 := am_lt c 1 3
  have h2 := am_lt c 2 3
  unfold hl
  omega
theorem tW_mayGive (hM : qOk M) (hW : CW m x M) {c d to ho : Nat} (hc : c < 8 ^ 13) (hd : d < 8) (ht : to < 4) (hh : ho < 100) : f_Will_mayGive N S x (cs c d) (nI to) (nI ho) m = some (tf (may M c to ho)) := by
  unfold f_Will_mayGive may
  by_cases h3 : to = 3
  · subst h3
    have := hl_lt c
    rw [if_pos (show nI 3 = 3 from rfl), t_heldOf hc hd, b1_s, if_pos rfl]
    by_cases h : hl c < ho
    · rw [if_neg (nI_ge h (by omega))]
      simp [h, tf]
    · rw [if_pos (nI_le (by omega) (by omega))]
      simp [h, tf]
  · rw [if_neg (show ¬ nI to = 3 from fun q => h3 ((nI_eq (b := 3) (by omega) (by omega)).mp q)), tW_isHeir hM hW (by omega), b1_s, if_neg h3]
    by_cases h1 : to < qH M
    · rw [if_neg (by simp [h1, tf]), t_isThere hc hd (by omega), b1_s]
      cases e : cb c to <;> simp [h1, tf]
    · rw [if_pos (by simp [h1, tf])]
      simp [h1, tf]
theorem tW_worth (hM : qOk M) (hW : CW m x M) {h s : Nat} (hh : h < qH M) (hs : s < 3) : f_Will_worth N S x (nI h) (nI s) m = some (nI (qW M h s)) := by
  have hH := hM.1
  unfold f_Will_worth
  rw [if_neg (nI_pos (by omega)), hW.1, if_neg (nI_ge hh (by omega)), if_neg (nI_pos (by omega)), if_pos (show nI s < 3 from nI_lt (b := 3) hs (by omega)), w_ix, ck_t (nI_in (by omega) (by omega)), nI_clamp (by omega), hW.2.2.2.2.2.1 h s hh hs]
theorem tW_value (hM : qOk M) (hW : CW m x M) (hN : 4 ≤ N) {c d h k : Nat} (hc : c < 8 ^ 13) (hd : d < 8) (hh : h < qH M) (hk : k < 4) : f_Will_valueOf N S x (nI h) (cs c d) (nI k) m = some (nI (wv M c h k)) := by
  have hH := hM.1
  have hlt := cs_lt2 hc hd
  have step : ∀ (K : Int64 → Int32 → Int32 → Option Int32) (j n v q : Nat), j < 3 → q < 2 ^ 62 → f_Will_valueOf_L33 N S x (nI h * 3) m K (n + 1) (lN q) (nI v) (nI j) = f_Will_valueOf_L33 N S x (nI h * 3) m K n (lN (q / 8 ^ 4)) (nI (v + qW M h j * dg q 0)) (nI (j + 1)) := by
    intro K j n v q hj hq
    rw [f_Will_valueOf_L33, if_neg (show ¬ (3 : Int32) ≤ nI j from nI_ge (b := 3) hj (by omega)), w_ix, ck_t (nI_in (by omega) (by omega)), nI_clamp (by omega), hW.2.2.2.2.2.1 h j hh hj, lN_i, nI_a7, ← dg_0 q, pk_mul, nI_add, nI_1]
    congr 1
    rw [show (12 : Int32) = nI 12 from rfl, lus_n (by omega) (by omega)]
  unfold f_Will_valueOf
  rw [if_neg (nI_pos (by omega)), hW.1, if_pos (nI_lt hh (by omega))]
  obtain ⟨n, hn⟩ : ∃ n, N = n + 1 + 1 + 1 + 1 := ⟨N - 4, by omega⟩
  rw [show (3 : Int32) * nI k = nI (3 * k) from by rw [show (3 : Int32) = nI 3 from rfl, pk_mul]]
  unfold cs
  rw [lus_n (by omega) (by omega), p8]
  have hq : (c + d * 8 ^ 13) / 8 ^ k < 2 ^ 62 := Nat.lt_of_le_of_lt (Nat.div_le_self _ _) (by omega)
  have hq2 : (c + d * 8 ^ 13) / 8 ^ k / 8 ^ 4 < 2 ^ 62 := Nat.lt_of_le_of_lt (Nat.div_le_self _ _) hq
  have hq3 : (c + d * 8 ^ 13) / 8 ^ k / 8 ^ 4 / 8 ^ 4 < 2 ^ 62 := Nat.lt_of_le_of_lt (Nat.div_le_self _ _) hq2
  have go : ∀ (K : Int64 → Int32 → Int32 → Option Int32), f_Will_valueOf_L33 N S x (nI h * 3) m K (n + 1 + 1 + 1 + 1) (lN ((c + d * 8 ^ 13) / 8 ^ k)) (nI 0) (nI 0) = K (lN ((c + d * 8 ^ 13) / 8 ^ k / 8 ^ 4 / 8 ^ 4 / 8 ^ 4)) (nI (wv M c h k)) (nI 3) := by
    intro K
    rw [step K 0 _ _ _ (by omega) hq, step K 1 _ _ _ (by omega) hq2, step K 2 _ _ _ (by omega) hq3, f_Will_valueOf_L33, if_pos (show (3 : Int32) ≤ nI (2 + 1) from nI_le (a := 3) (by omega) (by omega))]
    congr 2
    simp only [dg_div]
    unfold wv am
    rw [cs_dg (by omega), cs_dg (by omega), cs_dg (by omega)]
    simp only [Nat.zero_add, Nat.add_zero, Nat.mul_zero, Nat.mul_one, Nat.reduceMul, Nat.reduceAdd]
    rw [Nat.add_comm k 4, Nat.add_assoc k 4 4, Nat.add_comm k (4 + 4)]
  have := go (fun z6 z8 z9 => some z8)
  rw [← hn] at this
  exact this
theorem t_firstHeld {c d : Nat} (hN : 4 ≤ N) (hc : c < 8 ^ 13) (hd : d < 8) : f_State_firstHeld N (cs c d) = some (if 0 < am c 0 3 then 0 else if 0 < am c 1 3 then 1 else if 0 < am c 2 3 then 2 else -1) := by
  have step : ∀ (K : Int32 → Option Int32) (j n : Nat), j < 3 → f_State_firstHeld_L2 N (cs c d) K (n + 1) (nI j) = if 0 < am c j 3 then some (nI j) else f_State_firstHeld_L2 N (cs c d) K n (nI (j + 1)) := by
    intro K j n hj
    have h8 := am_lt c j 3
    rw [f_State_firstHeld_L2, if_neg (show ¬ (3 : Int32) ≤ nI j from nI_ge (b := 3) hj (by omega)), show (3 : Int32) = nI 3 from rfl, t_amount hc hd hj (by omega), b1_s]
    by_cases h : 0 < am c j 3
    · rw [if_neg (nI_nle h (by omega)), if_pos h]
    · rw [if_pos (show nI (am c j 3) ≤ 0 from nI_le (b := 0) (by omega) (by omega)), if_neg h, nI_1]
  obtain ⟨n, hn⟩ : ∃ n, N = n + 1 + 1 + 1 + 1 := ⟨N - 4, by omega⟩
  have go : f_State_firstHeld_L2 N (cs c d) (fun (z4_2 : Int32) => some ((-1))) (n + 1 + 1 + 1 + 1) (nI 0) = some (if 0 < am c 0 3 then 0 else if 0 < am c 1 3 then 1 else if 0 < am c 2 3 then 2 else -1) := by
    rw [step _ 0 _ (by omega), step _ 1 _ (by omega), step _ 2 _ (by omega), f_State_firstHeld_L2, if_pos (show (3 : Int32) ≤ nI (2 + 1) from nI_le (a := 3) (by omega) (by omega))]
    split
    · rfl
    · split
      · rfl
      · split <;> rfl
  rw [← hn] at go
  exact go
end CWILL
