/-! STATES as numbers: c has the digits 4s + h (things of sort s that h has; 3: held) and 12 (who came); the class's long has the day as digit 13; the reference's has the digits 3h + s. -/
def cs (c d : Nat) : Int64 := lN (c + d * 8 ^ 13)
def rf (c : Nat) : Nat := sm (fun i => if i < 12 then dg c (4 * (i % 3) + i / 3) else dg c 12) 13
def rz (c : Nat) : Int64 := lN (rf c)
def tf (b : Bool) : Int32 := if b then 1 else 0
theorem tf_t : tf true = 1 := rfl
theorem tf_f : tf false = 0 := rfl
theorem tf_0 {b : Bool} : tf b = 0 ↔ b = false := by cases b <;> decide
theorem tf_1 {b : Bool} : tf b = 1 ↔ b = true := by cases b <;> decide
theorem tf_or (b : Bool) : tf b = 0 ∨ tf b = 1 := by cases b <;> decide
/-- h came -/
def cb (c h : Nat) : Bool := decide (dg c 12 / 2 ^ h % 2 = 1)
/-- how many of sort s h has; how many are held; how many there are -/
def am (c s h : Nat) : Nat := dg c (4 * s + h)
def hl (c : Nat) : Nat := am c 0 3 + am c 1 3 + am c 2 3
theorem am_lt (c s h : Nat) : am c s h < 8 := dg_lt _ _
theorem cs_lt {c d : Nat} (hc : c < 8 ^ 13) (hd : d < 8) : c + d * 8 ^ 13 < 8 ^ 14 := by
  have : d * 8 ^ 13 ≤ 7 * 8 ^ 13 := Nat.mul_le_mul_right _ (by omega)
  rw [Nat.pow_succ 8 13]
  omega
theorem cs_lt2 {c d : Nat} (hc : c < 8 ^ 13) (hd : d < 8) : c + d * 8 ^ 13 < 2 ^ 42 := cs_lt hc hd
theorem cs_dg {c d i : Nat} (hi : i < 13) : dg (c + d * 8 ^ 13) i = dg c i := by
  obtain ⟨k, hk⟩ : ∃ k, 13 = i + (k + 1) := ⟨13 - i - 1, by omega⟩
  unfold dg
  have : d * 8 ^ 13 = 8 ^ i * (8 * (d * 8 ^ k)) := by
    rw [hk, Nat.pow_add, Nat.pow_succ, Nat.mul_comm (8 ^ k) 8, Nat.mul_left_comm, Nat.mul_left_comm 8]
  rw [this, Nat.add_mul_div_left _ _ (p8_pos i)]
  omega
theorem cs_d13 {c d : Nat} (hc : c < 8 ^ 13) (hd : d < 8) : dg (c + d * 8 ^ 13) 13 = d := by
  unfold dg
  rw [Nat.add_mul_div_right _ _ (p8_pos 13), Nat.div_eq_of_lt hc]
  omega
theorem lus_dg {n i : Nat} (hn : n < 2 ^ 62) (hi : i < 20) : (lus (lN n) (nI (3 * i))).toInt32 &&& 7 = nI (dg n i) := by
  rw [lus_n (by omega) (by omega), lN_i, nI_a7, p8]
  rfl
theorem lsr_dg {n i : Nat} (hn : n < 2 ^ 62) (hi : i < 20) : (lsr (lN n) (nI (3 * i))).toInt32 &&& 7 = nI (dg n i) := by
  rw [lsr_n hn (by omega), lN_i, nI_a7, p8]
  rfl
section CLASSST
variable {N c d : Nat}
theorem t_cameOf (hc : c < 8 ^ 13) (hd : d < 8) : f_State_cameOf N (cs c d) = some (nI (dg c 12)) := by
  have := cs_lt2 hc hd
  have h := lus_dg (n := c + d * 8 ^ 13) (i := 12) (by omega) (by omega)
  rw [cs_dg (by omega)] at h
  unfold f_State_cameOf cs
  exact congrArg some h
theorem t_dayOf (hc : c < 8 ^ 13) (hd : d < 8) : f_State_dayOf N (cs c d) = some (nI d) := by
  have := cs_lt2 hc hd
  have h := lus_dg (n := c + d * 8 ^ 13) (i := 13) (by omega) (by omega)
  rw [cs_d13 hc hd] at h
  unfold f_State_dayOf cs
  exact congrArg some h
theorem t_isThere (hc : c < 8 ^ 13) (hd : d < 8) {h : Nat} (hh : h < 4) : f_State_isThere N (cs c d) (nI h) = some (tf (cb c h)) := by
  unfold f_State_isThere
  rw [t_cameOf hc hd, b1_s, isr_n (by have := dg_lt c 12; omega) (by omega), nI_a1]
  unfold cb
  rcases Nat.mod_two_eq_zero_or_one (dg c 12 / 2 ^ h) with e | e <;> rw [e] <;> rfl
theorem t_ix (s h : Nat) : (12 : Int32) * nI s + 3 * nI h = nI (3 * (4 * s + h)) := by
  show nI 12 * nI s + nI 3 * nI h = _
  rw [pk_mul, pk_mul, nI_add]
  congr 1
  omega
theorem t_amount (hc : c < 8 ^ 13) (hd : d < 8) {s h : Nat} (hs : s < 3) (hh : h < 4) : f_State_amount N (cs c d) (nI s) (nI h) = some (nI (am c s h)) := by
  have := cs_lt2 hc hd
  have e := lus_dg (n := c + d * 8 ^ 13) (i := 4 * s + h) (by omega) (by omega)
  rw [cs_dg (by omega)] at e
  unfold f_State_amount cs
  rw [t_ix]
  exact congrArg some e
theorem t_thingsOf (hc : c < 8 ^ 13) (hd : d < 8) {h : Nat} (hh : h < 4) : f_State_thingsOf N (cs c d) (nI h) = some (nI (am c 0 h + am c 1 h + am c 2 h)) := by
  have e0 := t_amount (N := N) hc hd (s := 0) (by omega) hh
  have e1 := t_amount (N := N) hc hd (s := 1) (by omega) hh
  have e2 := t_amount (N := N) hc hd (s := 2) (by omega) hh
  unfold f_State_thingsOf
  rw [show (0 : Int32) = nI 0 from rfl, e0, b1_s, show (1 : Int32) = nI 1 from rfl, e1, b1_s, show (2 : Int32) = nI 2 from rfl, e2, b1_s, nI_add, nI_add]
theorem t_heldOf (hc : c < 8 ^ 13) (hd : d < 8) : f_State_heldOf N (cs c d) = some (nI (hl c)) := by
  unfold f_State_heldOf
  rw [show (3 : Int32) = nI 3 from rfl, t_thingsOf hc hd (by omega), b1_s]
  rfl
theorem t_one {s h : Nat} (hs : s < 3) (hh : h < 4) : f_State_one N (nI s) (nI h) = some (lN (8 ^ (4 * s + h))) := by
  unfold f_State_one
  rw [t_ix, show (1 : Int64) = lN 1 from rfl, lsl_n 1 (by omega), p8, Nat.one_mul]
theorem t_with {s h : Nat} (hs : s < 3) (hh : h < 4) : f_State_with N (cs c d) (nI s) (nI h) = some (cs (c + 8 ^ (4 * s + h)) d) := by
  unfold f_State_with
  rw [t_one hs hh, b1_s]
  unfold cs
  rw [lN_add]
  congr 2
  omega
theorem cs_sub {s h : Nat} (h0 : 0 < am c s h) : cs c d - lN (8 ^ (4 * s + h)) = cs (c - 8 ^ (4 * s + h)) d := by
  have h1 := dg_le h0
  unfold cs
  rw [lN_sub (by omega)]
  congr 1
  omega
end CLASSST
section REFST
variable {N c : Nat}
theorem rf_f (c i : Nat) : (if i < 12 then dg c (4 * (i % 3) + i / 3) else dg c 12) < 8 := by split <;> exact dg_lt _ _
theorem rf_lt (c : Nat) : rf c < 8 ^ 13 := sm_lt (rf_f c) 13
theorem rf_dg {s h : Nat} (hs : s < 3) (hh : h < 4) : dg (rf c) (3 * h + s) = am c s h := by
  unfold rf
  rw [dg_sm (rf_f c) 13 _ (by omega), if_pos (by omega)]
  unfold am
  congr 1
  omega
theorem rf_12 : dg (rf c) 12 = dg c 12 := by
  unfold rf
  rw [dg_sm (rf_f c) 13 _ (by omega), if_neg (by omega)]
theorem cell {i : Nat} (h : i < 12) : ∃ s h, s < 3 ∧ h < 4 ∧ i = 4 * s + h := ⟨i / 4, i % 4, by omega, by omega, by omega⟩
theorem celr {i : Nat} (h : i < 12) : ∃ s h, s < 3 ∧ h < 4 ∧ i = 3 * h + s := ⟨i % 3, i / 3, by omega, by omega, by omega⟩
theorem rf_inj {a b : Nat} (ha : a < 8 ^ 13) (hb : b < 8 ^ 13) (h : rf a = rf b) : a = b := by
  refine dg_ext 13 ha hb (fun i hi => ?_)
  by_cases h1 : i < 12
  · obtain ⟨s, k, hs, hk, rfl⟩ := cell h1
    have e1 := rf_dg (c := a) hs hk
    have e2 := rf_dg (c := b) hs hk
    rw [h] at e1
    exact e1.symm.trans e2
  · have : i = 12 := by omega
    subst this
    rw [← rf_12 (c := a), ← rf_12 (c := b), h]
/-- with the digit of one cell below 7 -/
theorem rf_add (hc : c < 8 ^ 13) {s h : Nat} (hs : s < 3) (hh : h < 4) (h7 : am c s h < 7) : rf (c + 8 ^ (4 * s + h)) = rf c + 8 ^ (3 * h + s) := by
  have h7' : dg (rf c) (3 * h + s) < 7 := by rw [rf_dg hs hh]; exact h7
  have hle : rf c + 8 ^ (3 * h + s) < 8 ^ 14 := by
    have := rf_lt c
    have h2 : 8 ^ (3 * h + s) ≤ 8 ^ 13 := Nat.pow_le_pow_right (by decide) (by omega)
    have h3 : (8 : Nat) ^ 14 = 8 ^ 13 * 8 := Nat.pow_succ ..
    omega
  refine dg_ext 14 (Nat.lt_of_lt_of_le (rf_lt _) (Nat.pow_le_pow_right (by decide) (by omega))) hle (fun i hi => ?_)
  rw [dg_add h7']
  by_cases h1 : i < 12
  · obtain ⟨s', k, hs', hk, rfl⟩ := celr h1
    rw [rf_dg hs' hk, rf_dg hs' hk]
    unfold am at h7 ⊢
    rw [dg_add h7]
    congr 1
    by_cases e : s' = s ∧ k = h
    · obtain ⟨rfl, rfl⟩ := e
      rw [if_pos rfl, if_pos rfl]
    · rw [if_neg (by omega), if_neg (by omega)]
  · by_cases h2 : i = 12
    · subst h2
      rw [rf_12, rf_12]
      unfold am at h7
      rw [dg_add h7, if_neg (by omega), if_neg (by omega)]
    · have : i = 13 := by omega
      subst this
      rw [dg_big (rf_lt _) (Nat.le_refl _), dg_big (rf_lt _) (Nat.le_refl _), if_neg (by omega)]
theorem add_lt {i : Nat} (hc : c < 8 ^ 13) (hi : i < 12) (h7 : dg c i < 7) : c + 8 ^ i < 8 ^ 13 := by
  rcases Nat.lt_or_ge (c + 8 ^ i) (8 ^ 13) with h | h
  · exact h
  · exfalso
    have h2 : 8 ^ i ≤ 8 ^ 13 := Nat.pow_le_pow_right (by decide) (by omega)
    have e := dg_add h7 13
    rw [dg_big hc (Nat.le_refl _), if_neg (by omega)] at e
    unfold dg at e
    have h3 : (c + 8 ^ i) / 8 ^ 13 = 1 := by
      rw [Nat.div_eq_iff (p8_pos 13)]
      omega
    rw [h3] at e
    omega
theorem rf_sub (hc : c < 8 ^ 13) {s h : Nat} (hs : s < 3) (hh : h < 4) (h0 : 0 < am c s h) : rf (c - 8 ^ (4 * s + h)) = rf c - 8 ^ (3 * h + s) := by
  have h1 := dg_le h0
  have h2 := dg_sub h0 (4 * s + h)
  rw [if_pos rfl] at h2
  have h3 := rf_add (c := c - 8 ^ (4 * s + h)) (Nat.lt_of_le_of_lt (Nat.sub_le _ _) hc) hs hh (by have := am_lt c s h; unfold am at *; omega)
  rw [Nat.sub_add_cancel h1] at h3
  omega
theorem rz_add (hc : c < 8 ^ 13) {s h : Nat} (hs : s < 3) (hh : h < 4) (h7 : am c s h < 7) : rz c + lN (8 ^ (3 * h + s)) = rz (c + 8 ^ (4 * s + h)) := by
  unfold rz
  rw [lN_add, rf_add hc hs hh h7]
theorem rz_sub (hc : c < 8 ^ 13) {s h : Nat} (hs : s < 3) (hh : h < 4) (h0 : 0 < am c s h) : rz c - lN (8 ^ (3 * h + s)) = rz (c - 8 ^ (4 * s + h)) := by
  unfold rz
  have h0' : 0 < dg (rf c) (3 * h + s) := by rw [rf_dg hs hh]; exact h0
  rw [lN_sub (dg_le h0'), rf_sub hc hs hh h0]
theorem r_ix (s h : Nat) : (3 : Int32) * ((3 : Int32) * nI h + nI s) = nI (3 * (3 * h + s)) := by
  show nI 3 * (nI 3 * nI h + nI s) = _
  rw [pk_mul, nI_add, pk_mul]
theorem rf_lt2 (c : Nat) : rf c < 2 ^ 62 := Nat.lt_of_lt_of_le (rf_lt c) (by decide)
theorem t_Mthings {s h : Nat} (hs : s < 3) (hh : h < 4) : f_Mo_things N (rz c) (nI h) (nI s) = some (nI (am c s h)) := by
  have e := lsr_dg (n := rf c) (i := 3 * h + s) (rf_lt2 c) (by omega)
  rw [rf_dg hs hh] at e
  unfold f_Mo_things rz
  rw [r_ix]
  exact congrArg some e
theorem t_Mheld : f_Mo_held N (rz c) = some (nI (hl c)) := by
  have e0 := t_Mthings (N := N) (c := c) (s := 0) (h := 3) (by omega) (by omega)
  have e1 := t_Mthings (N := N) (c := c) (s := 1) (h := 3) (by omega) (by omega)
  have e2 := t_Mthings (N := N) (c := c) (s := 2) (h := 3) (by omega) (by omega)
  unfold f_Mo_held
  rw [show (0 : Int32) = nI 0 from rfl, show (1 : Int32) = nI 1 from rfl, show (2 : Int32) = nI 2 from rfl, show (3 : Int32) = nI 3 from rfl, e0, b1_s, e1, b1_s, e2, b1_s, nI_add, nI_add]
  rfl
theorem t_MmanyOf {h : Nat} (hh : h < 4) : f_Mo_manyOf N (rz c) (nI h) = some (nI (am c 0 h + am c 1 h + am c 2 h)) := by
  have e0 := t_Mthings (N := N) (c := c) (s := 0) (h := h) (by omega) (by omega)
  have e1 := t_Mthings (N := N) (c := c) (s := 1) (h := h) (by omega) (by omega)
  have e2 := t_Mthings (N := N) (c := c) (s := 2) (h := h) (by omega) (by omega)
  unfold f_Mo_manyOf
  rw [show (0 : Int32) = nI 0 from rfl, show (1 : Int32) = nI 1 from rfl, show (2 : Int32) = nI 2 from rfl, e0, b1_s, e1, b1_s, e2, b1_s, nI_add, nI_add]
theorem t_MhasCome {h : Nat} (hh : h < 4) : f_Mo_hasCome N (rz c) (nI h) = some (tf (cb c h)) := by
  unfold f_Mo_hasCome rz cb
  have h1 := rf_lt2 c
  rw [show (36 : Int32) + nI h = nI (36 + h) from by rw [show (36 : Int32) = nI 36 from rfl, nI_add], lsr_n h1 (by omega), wb_a1 (by have := Nat.div_le_self (rf c) (2 ^ (36 + h)); omega)]
  have e : rf c / 2 ^ (36 + h) % 2 = dg c 12 / 2 ^ h % 2 := by
    rw [← rf_12 (c := c)]
    unfold dg
    have hl := rf_lt c
    rw [Nat.pow_add, ← Nat.div_div_eq_div_mul]
    have : (2 : Nat) ^ 36 = 8 ^ 12 := by decide
    rw [this]
    have h3 : rf c / 8 ^ 12 < 8 := Nat.div_lt_of_lt_mul (by rw [← Nat.pow_succ]; exact hl)
    rw [Nat.mod_eq_of_lt h3]
  rw [e]
  rcases Nat.mod_two_eq_zero_or_one (dg c 12 / 2 ^ h) with e | e <;> rw [e] <;> rfl
theorem t_Mone {s h : Nat} (hs : s < 3) (hh : h < 4) : f_Mo_one N (nI h) (nI s) = some (lN (8 ^ (3 * h + s))) := by
  unfold f_Mo_one
  rw [r_ix, show (1 : Int64) = lN 1 from rfl, lsl_n 1 (by omega), p8, Nat.one_mul]
end REFST
/-! somebody comes -/
def cme (c h : Nat) : Nat := if cb c h then c else c + 2 ^ h * 8 ^ 12
