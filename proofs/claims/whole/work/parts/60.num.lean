/-! NUMBERS: rows of laws/BITS.to-paste (lN under shifts), and shifts of the functions over nI and lN; digits of base 8. -/
theorem wb_tb (n : Nat) : (lN n).toBitVec = BitVec.ofNat 64 n := rfl
theorem wb_inj {a b : Int64} (h : a.toBitVec = b.toBitVec) : a = b := Int64.toBitVec_inj.mp h
theorem wb_tn {n : Nat} (h : n < 2 ^ 64) : (lN n).toBitVec.toNat = n := by rw [wb_tb, BitVec.toNat_ofNat, Nat.mod_eq_of_lt h]
theorem wb_of (x : Int64) : ∃ n, n < 2 ^ 64 ∧ x = lN n := ⟨x.toBitVec.toNat, x.toBitVec.isLt, wb_inj (by rw [wb_tb]; simp)⟩
theorem wb_of32 (x : Int32) : ∃ n, n < 2 ^ 32 ∧ x = nI n := ⟨x.toBitVec.toNat, x.toBitVec.isLt, Int32.toBitVec_inj.mp (by show _ = BitVec.ofNat 32 _; simp)⟩
theorem wb_c : ∀ k, k < 64 → ((nI k).toInt64 &&& 63) = lN k := by decide +kernel
theorem wb_cu : ∀ k, k < 64 → ((nI k).toInt64.toUInt64 &&& Int64.toUInt64 63) = UInt64.ofNat k := by decide +kernel
theorem wb_sm : ∀ k, k < 64 → (BitVec.ofNat 64 k).smod 64 = BitVec.ofNat 64 k := by decide +kernel
theorem wb_pw {a b : Nat} (h : a ≤ b) : 2 ^ b = 2 ^ a * 2 ^ (b - a) := by rw [← Nat.pow_add]; congr 1; omega
theorem wb_lt2 {a b : Nat} (h : a < b) : 2 ^ a < 2 ^ b := Nat.pow_lt_pow_right (by decide) h
theorem wb_mod (n : Nat) : lN n = lN (n % 2 ^ 64) := wb_inj (by rw [wb_tb, wb_tb]; apply BitVec.eq_of_toNat_eq; rw [BitVec.toNat_ofNat, BitVec.toNat_ofNat, Nat.mod_mod])
theorem wb_shr {n k : Nat} (hn : n < 2 ^ 64) (hk : k < 64) : ((lN n).toUInt64 >>> ((nI k).toInt64.toUInt64 &&& Int64.toUInt64 63)).toInt64 = lN (n / 2 ^ k) := by
  rw [wb_cu k hk]
  apply wb_inj
  apply BitVec.eq_of_toNat_eq
  show ((lN n).toUInt64 >>> UInt64.ofNat k).toNat = (BitVec.ofNat 64 _).toNat
  have h1 : (UInt64.ofNat k).toNat = k := by
    show (BitVec.ofNat 64 k).toNat = k
    rw [BitVec.toNat_ofNat, Nat.mod_eq_of_lt (by omega)]
  have h2 : (lN n).toUInt64.toNat = n := wb_tn hn
  rw [UInt64.toNat_shiftRight, h1, h2, Nat.mod_eq_of_lt hk, Nat.shiftRight_eq_div_pow, BitVec.toNat_ofNat, Nat.mod_eq_of_lt (Nat.lt_of_le_of_lt (Nat.div_le_self _ _) hn)]
theorem wb_shl (n : Nat) {k : Nat} (hk : k < 64) : lN n <<< ((nI k).toInt64 &&& 63) = lN (n * 2 ^ k) := by
  rw [wb_c k hk]
  apply wb_inj
  rw [Int64.toBitVec_shiftLeft, wb_tb, wb_tb, wb_tb, wb_sm k hk]
  apply BitVec.eq_of_toNat_eq
  rw [BitVec.shiftLeft_eq', BitVec.toNat_shiftLeft, BitVec.toNat_ofNat, BitVec.toNat_ofNat, BitVec.toNat_ofNat, Nat.mod_eq_of_lt (show k < 2 ^ 64 by omega), Nat.shiftLeft_eq, Nat.mul_mod, Nat.mod_mod, ← Nat.mul_mod]
theorem wb_and {a b : Nat} (ha : a < 2 ^ 64) (hb : b < 2 ^ 64) : lN a &&& lN b = lN (a &&& b) := by
  apply wb_inj
  rw [Int64.toBitVec_and, wb_tb, wb_tb, wb_tb]
  apply BitVec.eq_of_toNat_eq
  rw [BitVec.toNat_and, BitVec.toNat_ofNat, BitVec.toNat_ofNat, BitVec.toNat_ofNat, Nat.mod_eq_of_lt ha, Nat.mod_eq_of_lt hb, Nat.mod_eq_of_lt (Nat.and_lt_two_pow _ hb)]
theorem wb_or {a b : Nat} (ha : a < 2 ^ 64) (hb : b < 2 ^ 64) : lN a ||| lN b = lN (a ||| b) := by
  apply wb_inj
  rw [Int64.toBitVec_or, wb_tb, wb_tb, wb_tb]
  apply BitVec.eq_of_toNat_eq
  rw [BitVec.toNat_or, BitVec.toNat_ofNat, BitVec.toNat_ofNat, BitVec.toNat_ofNat, Nat.mod_eq_of_lt ha, Nat.mod_eq_of_lt hb, Nat.mod_eq_of_lt (Nat.or_lt_two_pow ha hb)]
theorem wb_mask {n k : Nat} (hn : n < 2 ^ 64) (hk : k < 64) : lN n &&& lN (2 ^ k - 1) = lN (n % 2 ^ k) := by
  rw [wb_and hn (by have := wb_lt2 hk; omega), Nat.and_two_pow_sub_one_eq_mod]
theorem wb_a1 {n : Nat} (hn : n < 2 ^ 64) : lN n &&& 1 = lN (n % 2) := wb_mask (k := 1) hn (by decide)
theorem pf_lI {a : Nat} (h : a < 2 ^ 63) : (lN a).toInt = (a : Int) := lg_ofNat_toInt h
theorem pf_shr {a d : Nat} {D : Int64} (hD : (D.toBitVec.smod 64).toNat = d) (h : a < 2 ^ 62) : lN a >>> D = lN (a / 2 ^ d) := by
  have hd : a / 2 ^ d ≤ a := Nat.div_le_self _ _
  apply Int64.toInt_inj.mp
  have e : (lN a >>> D).toInt = (lN a).toInt >>> d := by
    rw [← hD]
    exact BitVec.toInt_sshiftRight ..
  rw [e, Int.shiftRight_eq_div_pow, pf_lI (by omega), pf_lI (by omega)]
  rfl
theorem s_l : ∀ n, n < 32 → ((nI n &&& 31).toBitVec.smod 32).toNat = n := by decide +kernel
theorem s_u : ∀ n, n < 32 → (((nI n).toUInt32 &&& Int32.toUInt32 31).toBitVec % 32).toNat = n := by decide +kernel
theorem lus_n {n k : Nat} (hn : n < 2 ^ 64) (hk : k < 64) : lus (lN n) (nI k) = lN (n / 2 ^ k) := wb_shr hn hk
theorem lsl_n (n : Nat) {k : Nat} (hk : k < 64) : lsl (lN n) (nI k) = lN (n * 2 ^ k) := wb_shl n hk
theorem lsr_n {n k : Nat} (hn : n < 2 ^ 62) (hk : k < 64) : lsr (lN n) (nI k) = lN (n / 2 ^ k) := by
  unfold lsr
  refine pf_shr ?_ hn
  rw [wb_c k hk, wb_tb, wb_sm k hk, BitVec.toNat_ofNat, Nat.mod_eq_of_lt (by omega)]
theorem isr_n {n k : Nat} (hn : n < 2 ^ 31) (hk : k < 32) : isr (nI n) (nI k) = nI (n / 2 ^ k) := pk_shrN hn _ k (s_l k hk)
theorem isl_n {n k : Nat} (hk : k < 32) (hn : n * 2 ^ k < 2 ^ 32) : isl (nI n) (nI k) = nI (n * 2 ^ k) := pk_shlN _ k (s_l k hk) hn
theorem ius_n {n k : Nat} (hn : n < 2 ^ 32) (hk : k < 32) : ius (nI n) (nI k) = nI (n / 2 ^ k) := pk_ushrN hn _ k (s_u k hk)
theorem nI_bv (n : Nat) : (nI n).toBitVec.toNat = n % 2 ^ 32 := by
  show (BitVec.ofNat 32 n).toNat = _
  rw [BitVec.toNat_ofNat]
theorem nI_a7 (n : Nat) : nI n &&& 7 = nI (n % 8) := by
  rw [pk_and (nI n) (m := 7) 3 (by decide), nI_bv]
  congr 1
  omega
theorem nI_a3 (n : Nat) : nI n &&& 3 = nI (n % 4) := by
  rw [pk_and (nI n) (m := 3) 2 (by decide), nI_bv]
  congr 1
  omega
theorem nI_a1 (n : Nat) : nI n &&& 1 = nI (n % 2) := by
  rw [pk_and (nI n) (m := 1) 1 (by decide), nI_bv]
  congr 1
  omega
theorem nI_a4095 (n : Nat) : nI n &&& 4095 = nI (n % 4096) := by
  rw [pk_and (nI n) (m := 4095) 12 (by decide), nI_bv]
  congr 1
  omega
/-- the digit i of n, to the base 8 -/
def dg (n i : Nat) : Nat := n / 8 ^ i % 8
theorem dg_lt (n i : Nat) : dg n i < 8 := Nat.mod_lt _ (by decide)
theorem p8 (i : Nat) : (2 : Nat) ^ (3 * i) = 8 ^ i := by rw [Nat.pow_mul]
theorem p8_pos (i : Nat) : 0 < 8 ^ i := Nat.pow_pos (by decide)
theorem dg_div (n i j : Nat) : dg (n / 8 ^ i) j = dg n (i + j) := by unfold dg; rw [Nat.div_div_eq_div_mul, ← Nat.pow_add]
theorem dg_0 (n : Nat) : dg n 0 = n % 8 := by unfold dg; simp
theorem dg_s (n i : Nat) : dg n (i + 1) = dg (n / 8) i := by
  have := dg_div n 1 i
  rw [Nat.pow_one] at this
  rw [this, Nat.add_comm]
theorem dg_big {n k i : Nat} (h : n < 8 ^ k) (hi : k ≤ i) : dg n i = 0 := by
  unfold dg
  rw [Nat.div_eq_of_lt (Nat.lt_of_lt_of_le h (Nat.pow_le_pow_right (by decide) hi))]
theorem dg_ext : ∀ (k : Nat) {a b : Nat}, a < 8 ^ k → b < 8 ^ k → (∀ i, i < k → dg a i = dg b i) → a = b
  | 0, a, b, ha, hb, _ => by
    rw [Nat.pow_zero] at ha hb
    omega
  | k + 1, a, b, ha, hb, h => by
    have h0 := h 0 (by omega)
    rw [dg_0, dg_0] at h0
    rw [Nat.pow_succ] at ha hb
    have := dg_ext k (a := a / 8) (b := b / 8) (by omega) (by omega) (fun i hi => by rw [← dg_s, ← dg_s]; exact h (i + 1) (by omega))
    omega
/-- one more at the digit i -/
theorem dg_add {n i : Nat} (h : dg n i < 7) (j : Nat) : dg (n + 8 ^ i) j = dg n j + (if j = i then 1 else 0) := by
  rcases Nat.lt_trichotomy j i with hj | hj | hj
  · rw [if_neg (by omega)]
    obtain ⟨d, rfl⟩ : ∃ d, i = j + (d + 1) := ⟨i - j - 1, by omega⟩
    unfold dg
    rw [Nat.pow_add, Nat.add_mul_div_left _ _ (p8_pos j), Nat.pow_succ]
    omega
  · subst hj
    rw [if_pos rfl]
    unfold dg at h ⊢
    rw [Nat.add_div_right _ (p8_pos j)]
    omega
  · rw [if_neg (by omega)]
    obtain ⟨d, rfl⟩ : ∃ d, j = i + (1 + d) := ⟨j - i - 1, by omega⟩
    rw [← dg_div, ← dg_div n i, ← dg_div, ← dg_div (n / 8 ^ i) 1]
    have h2 : (n + 8 ^ i) / 8 ^ i = n / 8 ^ i + 1 := Nat.add_div_right _ (p8_pos i)
    have h3 : (n / 8 ^ i + 1) / 8 ^ 1 = n / 8 ^ i / 8 ^ 1 := by
      unfold dg at h
      rw [Nat.pow_one]
      omega
    rw [h2, h3, Nat.add_zero]
theorem dg_le {n i : Nat} (h : 0 < dg n i) : 8 ^ i ≤ n := by
  rcases Nat.lt_or_ge n (8 ^ i) with h1 | h1
  · rw [dg_big h1 (Nat.le_refl i)] at h
    omega
  · exact h1
theorem dg_sub {n i : Nat} (h : 0 < dg n i) (j : Nat) : dg (n - 8 ^ i) j = dg n j - (if j = i then 1 else 0) := by
  have h1 := dg_le h
  have h2 : dg (n - 8 ^ i) i < 7 := by
    obtain ⟨q, rfl⟩ : ∃ q, n = q + 8 ^ i := ⟨n - 8 ^ i, by omega⟩
    rw [Nat.add_sub_cancel]
    unfold dg at h ⊢
    rw [Nat.add_div_right _ (p8_pos i)] at h
    omega
  have h3 := dg_add h2 j
  rw [Nat.sub_add_cancel h1] at h3
  omega
/-- a number by its digits -/
def sm (f : Nat → Nat) : Nat → Nat
  | 0 => 0
  | k + 1 => sm f k + f k * 8 ^ k
theorem sm_lt {f : Nat → Nat} (h : ∀ i, f i < 8) : ∀ k, sm f k < 8 ^ k
  | 0 => by simp [sm]
  | k + 1 => by
    have := sm_lt h k
    have h2 := h k
    have h3 : f k * 8 ^ k ≤ 7 * 8 ^ k := Nat.mul_le_mul_right _ (by omega)
    rw [sm, Nat.pow_succ]
    omega
theorem dg_sm {f : Nat → Nat} (h : ∀ i, f i < 8) : ∀ k i, i < k → dg (sm f k) i = f i
  | 0, i, hi => by omega
  | k + 1, i, hi => by
    rw [sm]
    rcases Nat.lt_or_ge i k with h1 | h1
    · obtain ⟨d, rfl⟩ : ∃ d, k = i + (d + 1) := ⟨k - i - 1, by omega⟩
      have e := dg_sm h _ i h1
      unfold dg at e ⊢
      have : f (i + (d + 1)) * 8 ^ (i + (d + 1)) = 8 ^ i * (8 * (f (i + (d + 1)) * 8 ^ d)) := by
        rw [Nat.pow_add, Nat.pow_succ, Nat.mul_comm (8 ^ d) 8, Nat.mul_left_comm, Nat.mul_left_comm 8]
      rw [this, Nat.add_mul_div_left _ _ (p8_pos i)]
      omega
    · have : i = k := by omega
      subst this
      unfold dg
      rw [Nat.add_mul_div_right _ _ (p8_pos i), Nat.div_eq_of_lt (sm_lt h i)]
      have := h i
      omega
