/-! THE MATTER, as numbers; how the class's Will and the reference hold it; what the small methods answer of it. -/
theorem or_n {n k : Nat} (hn : n < 2 ^ 64) (hk : k < 63) : lN n ||| lN (2 ^ k) = lN (if n / 2 ^ k % 2 = 1 then n else n + 2 ^ k) := by
  apply wb_inj
  rw [Int64.toBitVec_or, wb_tb, wb_tb]
  have ht : BitVec.ofNat 64 (2 ^ k) = BitVec.twoPow 64 k := by
    apply BitVec.eq_of_toNat_eq
    rw [BitVec.toNat_ofNat, BitVec.toNat_twoPow]
  have hb : (BitVec.ofNat 64 n).getLsbD k = decide (n / 2 ^ k % 2 = 1) := by
    rw [BitVec.getLsbD_ofNat, Nat.testBit_eq_decide_div_mod_eq]
    simp
    omega
  split
  · next h =>
    rw [wb_tb]
    apply BitVec.eq_of_getLsbD_eq
    intro i hi
    rw [ht, BitVec.getLsbD_or, BitVec.getLsbD_twoPow]
    by_cases e : k = i
    · subst e
      rw [hb, h]
      simp
    · simp [e]
  · next h =>
    have hz : BitVec.ofNat 64 n &&& BitVec.ofNat 64 (2 ^ k) = 0#64 := by
      rw [ht, BitVec.and_twoPow, hb]
      simp [h]
    rw [← BitVec.add_eq_or_of_and_eq_zero _ _ hz, wb_tb]
    apply BitVec.eq_of_toNat_eq
    simp
theorem cb_n {n h : Nat} (hh : h < 3) : n / 2 ^ (36 + h) % 2 = dg n 12 / 2 ^ h % 2 := by
  unfold dg
  rw [Nat.pow_add, ← Nat.div_div_eq_div_mul, show (2 : Nat) ^ 36 = 8 ^ 12 from by decide]
  generalize n / 8 ^ 12 = q
  rcases (by omega : h = 0 ∨ h = 1 ∨ h = 2) with rfl | rfl | rfl <;> omega
theorem p36 (h : Nat) : (2 : Nat) ^ (36 + h) = 2 ^ h * 8 ^ 12 := by
  rw [Nat.pow_add, Nat.mul_comm, show (2 : Nat) ^ 36 = 8 ^ 12 from by decide]
theorem cs_or {c d h : Nat} (hc : c < 8 ^ 13) (hd : d < 8) (hh : h < 3) : cs c d ||| lN (2 ^ (36 + h)) = cs (cme c h) d := by
  have := cs_lt2 hc hd
  unfold cs cme cb
  rw [or_n (by omega) (by omega), cb_n hh, cs_dg (by omega), p36]
  by_cases e : dg c 12 / 2 ^ h % 2 = 1
  · simp [e]
  · rw [if_neg e, if_neg (by simp [e])]
    exact congrArg lN (by omega)
theorem dg_adds {n i : Nat} : ∀ (a : Nat), dg n i + a < 8 → ∀ j, dg (n + a * 8 ^ i) j = dg n j + (if j = i then a else 0)
  | 0, _, j => by simp
  | a + 1, h, j => by
    have ih := dg_adds (n := n) (i := i) a (by omega)
    have h7 : dg (n + a * 8 ^ i) i < 7 := by rw [ih i, if_pos rfl]; omega
    have e := dg_add h7 j
    rw [ih j] at e
    rw [Nat.succ_mul, ← Nat.add_assoc, e]
    by_cases q : j = i
    · rw [if_pos q, if_pos q, if_pos q]; omega
    · rw [if_neg q, if_neg q, if_neg q]
theorem cme_dg {c h : Nat} (hh : h < 3) (i : Nat) : dg (cme c h) i = if i = 12 then (if cb c h then dg c 12 else dg c 12 + 2 ^ h) else dg c i := by
  unfold cme
  by_cases e : cb c h
  · simp only [e, if_true]
    split
    · next q => rw [q]
    · rfl
  · have e' : ¬ dg c 12 / 2 ^ h % 2 = 1 := by simpa [cb] using e
    have h8 : dg c 12 + 2 ^ h < 8 := by
      have := dg_lt c 12
      rcases (by omega : h = 0 ∨ h = 1 ∨ h = 2) with rfl | rfl | rfl <;> omega
    simp only [e, if_false, Bool.false_eq_true]
    rw [dg_adds _ h8 i]
    split
    · next q => rw [q]
    · rfl
theorem cme_lt {c h : Nat} (hc : c < 8 ^ 13) (hh : h < 3) : cme c h < 8 ^ 13 := by
  rcases Nat.lt_or_ge (cme c h) (8 ^ 13) with q | q
  · exact q
  · exfalso
    have e := cme_dg (c := c) hh 13
    rw [if_neg (by omega), dg_big hc (Nat.le_refl _)] at e
    unfold cme at e q
    by_cases w : cb c h
    · rw [if_pos w] at q
      omega
    · rw [if_neg w] at e q
      have h2 : 2 ^ h * 8 ^ 12 < 8 ^ 13 := by
        rcases (by omega : h = 0 ∨ h = 1 ∨ h = 2) with rfl | rfl | rfl <;> decide
      unfold dg at e
      have h3 : (c + 2 ^ h * 8 ^ 12) / 8 ^ 13 = 1 := by
        rw [Nat.div_eq_iff (p8_pos 13)]
        omega
      rw [h3] at e
      omega
theorem cme_am {c h : Nat} (hh : h < 3) {s k : Nat} (hs : s < 3) (hk : k < 4) : am (cme c h) s k = am c s k := by
  unfold am
  rw [cme_dg hh, if_neg (by omega)]
theorem cme_cb {c h : Nat} (hh : h < 3) {k : Nat} (hk : k < 3) : cb (cme c h) k = (cb c k || decide (k = h)) := by
  unfold cb
  rw [cme_dg hh, if_pos rfl]
  have := dg_lt c 12
  by_cases e : cb c h
  · rw [if_pos e]
    unfold cb at e
    have e' := of_decide_eq_true e
    by_cases q : k = h
    · subst q
      simp [e']
    · simp [q]
  · rw [if_neg e]
    have e' : ¬ dg c 12 / 2 ^ h % 2 = 1 := by simpa [cb] using e
    generalize dg c 12 = a at *
    rcases (by omega : h = 0 ∨ h = 1 ∨ h = 2) with rfl | rfl | rfl <;> rcases (by omega : k = 0 ∨ k = 1 ∨ k = 2) with rfl | rfl | rfl <;> simp <;> omega
theorem rf_cme {c h : Nat} (hh : h < 3) : rf (cme c h) = (if cb c h then rf c else rf c + 2 ^ h * 8 ^ 12) := by
  have hcb : cb (rf c) h = cb c h := by unfold cb; rw [rf_12]
  have hlt : cme (rf c) h < 8 ^ 13 := cme_lt (rf_lt c) hh
  have e : rf (cme c h) = cme (rf c) h := by
    refine dg_ext 13 (rf_lt _) hlt (fun i hi => ?_)
    rw [cme_dg hh, hcb, rf_12]
    by_cases q : i = 12
    · subst q
      rw [if_pos rfl, rf_12, cme_dg hh, if_pos rfl]
    · rw [if_neg q]
      obtain ⟨s, k, hs, hk, rfl⟩ := celr (show i < 12 by omega)
      rw [rf_dg hs hk, rf_dg hs hk, cme_am hh hs hk]
  rw [e]
  unfold cme
  rw [hcb]
theorem rz_or {c h : Nat} (hh : h < 3) : rz c ||| lN (2 ^ (36 + h)) = rz (cme c h) := by
  have := rf_lt2 c
  unfold rz
  rw [or_n (by omega) (by omega), cb_n hh, rf_12, rf_cme hh, p36]
  unfold cb
  by_cases e : dg c 12 / 2 ^ h % 2 = 1 <;> simp [e]
/-! the matter -/
abbrev Mt : Type := (Nat × Nat × Nat × Nat × Nat) × (Nat → Nat → Nat) × (Nat → Nat) × (Nat → Nat → Nat) × (Nat → Nat → Nat) × (Nat → Nat → Nat)
def qH (M : Mt) : Nat := M.1.1
def qD (M : Mt) : Nat := M.1.2.1
def qO (M : Mt) : Nat := M.1.2.2.1
def qB (M : Mt) : Nat := M.1.2.2.2.1
def qL (M : Mt) : Nat := M.1.2.2.2.2
def qW (M : Mt) (h s : Nat) : Nat := M.2.1 h s
def qA (M : Mt) (d : Nat) : Nat := M.2.2.1 d
def qC (M : Mt) (d a : Nat) : Nat := M.2.2.2.1 d a
def qK (M : Mt) (d a : Nat) : Nat := M.2.2.2.2.1 d a
def qG (M : Mt) (d a : Nat) : Nat := M.2.2.2.2.2 d a
/-- the target as it is held -/
def qT (M : Mt) (d a : Nat) : Int32 := if qK M d a = 2 then -1 else nI (qG M d a)
/-- who is late, by bits -/
def lt1 (l h : Nat) : Bool := decide (l / 2 ^ h % 2 = 1)
/-- a matter, perhaps of no heirs -/
def qOk (M : Mt) : Prop := qH M ≤ 3 ∧ qD M ≤ 6 ∧ qO M ≤ 2 ∧ qB M ≤ 1 ∧ qL M < 2 ^ qH M ∧ (∀ h s, h < qH M → s < 3 → qW M h s ≤ 20) ∧ (∀ d, d < qD M → 1 ≤ qA M d ∧ qA M d ≤ 3) ∧ ∀ d a, d < qD M → a < qA M d → qC M d a ≤ 12 ∧ qK M d a ≤ 2 ∧ (qK M d a = 0 → qG M d a < 3) ∧ (qK M d a = 1 → qG M d a < qH M)
/-- the class's Will of key x holds it -/
def CW (m : Mm) (x : Nat) (M : Mt) : Prop := mI m x 0 = nI (qH M) ∧ mI m x 1 = nI (qD M) ∧ mI m x 2 = nI (qO M) ∧ mI m x 3 = nI (qB M) ∧ mI m x 6 = nI (qL M) ∧ (∀ h s, h < qH M → s < 3 → mX m (x + 2) (3 * h + s) = nI (qW M h s)) ∧ (∀ d, d < qD M → mX m (x + 3) d = nI (qA M d)) ∧ ∀ d a, d < qD M → a < qA M d → mX m (x + 4) (3 * d + a) = nI (qC M d a) ∧ mX m (x + 5) (3 * d + a) = nI (qK M d a) ∧ mX m (x + 6) (3 * d + a) = qT M d a
/-- the reference holds it -/
def RW (m : Mm) (M : Mt) : Prop := mI m 0 16 = nI (qH M) ∧ mI m 0 18 = nI (qD M) ∧ mI m 0 21 = nI (qO M) ∧ mI m 0 22 = nI (qB M) ∧ (∀ h s, h < qH M → s < 3 → mX m 7 (3 * h + s) = nI (qW M h s)) ∧ (∀ d, d < qD M → mX m 8 d = nI (qA M d)) ∧ ∀ d a, d < qD M → a < qA M d → mX m 9 (3 * (3 * d + a)) = nI (qC M d a) ∧ mX m 9 (3 * (3 * d + a) + 1) = nI (qK M d a) ∧ mX m 9 (3 * (3 * d + a) + 2) = qT M d a
/-- what k's things are worth to h -/
def wv (M : Mt) (c h k : Nat) : Nat := qW M h 0 * am c 0 k + qW M h 1 * am c 1 k + qW M h 2 * am c 2 k
