/-! ROWS of digits; judge. -/
def ro (n j : Nat) : Nat := n / 4 ^ j % 4
theorem ro_lt (n j : Nat) : ro n j < 4 := Nat.mod_lt _ (by decide)
theorem p4 (j : Nat) : (2 : Nat) ^ (2 * j) = 4 ^ j := by rw [Nat.pow_mul]
theorem nI_neg {n : Nat} (h : 2 ^ 31 ≤ n) (h2 : n < 2 ^ 32) : nI n < 0 := by
  rw [Int32.lt_iff_toInt_lt]
  show (BitVec.ofNat 32 n).toInt < 0
  rw [BitVec.toInt_eq_toNat_cond, BitVec.toNat_ofNat, Nat.mod_eq_of_lt h2, if_neg (by omega)]
  omega
/-- a row of alts -/
def rOk (M : Mt) (d n : Nat) : Bool := (List.range (qD M - d)).all (fun j => decide (ro n j < qA M (d + j))) && (decide (n < 2 ^ 31) && decide (n / 4 ^ (qD M - d) = 0))
def gOk (M : Mt) (d n : Nat) : Bool := decide (n < 2 ^ 31) && decide (n / 4 ^ (qD M - d) = 0)
theorem rOk_j {M : Mt} {d n : Nat} (h : rOk M d n = true) {j : Nat} (hj : j < qD M - d) : ro n j < qA M (d + j) := by
  unfold rOk at h
  rw [Bool.and_eq_true] at h
  have := List.all_eq_true.mp h.1 j (List.mem_range.mpr hj)
  exact of_decide_eq_true this
theorem rOk_n {M : Mt} {d n : Nat} (h : rOk M d n = true) : n < 2 ^ 31 := by
  unfold rOk at h
  rw [Bool.and_eq_true, Bool.and_eq_true] at h
  exact of_decide_eq_true h.2.1
section ROWSC
variable {N : Nat} {M : Mt} {S : St} {m : Mm}
theorem tC_digit {n j : Nat} (hn : n < 2 ^ 32) (hj : j < 16) : f_Rows_digit N (nI n) (nI j) = some (nI (ro n j)) := by
  unfold f_Rows_digit ro
  rw [show (2 : Int32) * nI j = nI (2 * j) from pk_mul 2 j, ius_n hn (by omega), nI_a3, p4]
theorem tC_canHold (hM : qOk M) (hW : CW m 10 M) {c d n : Nat} (hc : c < 8 ^ 13) (hd : d ≤ qD M) (hn : n < 2 ^ 32) : f_Rows_canHoldGifts N S (nI n) (cs c d) m = some (tf (gOk M d n)) := by
  have hD := hM.2.1
  unfold f_Rows_canHoldGifts gOk
  by_cases h : n < 2 ^ 31
  · have hq : n / 4 ^ (qD M - d) < 2 ^ 31 := Nat.lt_of_le_of_lt (Nat.div_le_self _ _) h
    rw [if_neg (nI_pos h), t_dayOf hc (by omega), b1_s, hW.2.1, pk_sub hd, show (2 : Int32) * nI (qD M - d) = nI (2 * (qD M - d)) from pk_mul 2 _, ius_n hn (by omega), p4]
    by_cases q : n / 4 ^ (qD M - d) = 0
    · rw [q, if_pos (show nI 0 = 0 from rfl)]
      simp [h, tf]
    · rw [if_neg (nI_ne0 (Nat.pos_of_ne_zero q) hq)]
      simp [h, q, tf]
  · rw [if_pos (nI_neg (by omega) hn)]
    simp [h, tf]
theorem tC_canBe (hM : qOk M) (hN : 1000000 ≤ N) (hW : CW m 10 M) {c d n : Nat} (hc : c < 8 ^ 13) (hd : d ≤ qD M) (hn : n < 2 ^ 32) : f_Rows_canBe N S (nI n) (cs c d) m = some (tf (rOk M d n)) := by
  have hD := hM.2.1
  unfold f_Rows_canBe
  rw [t_dayOf hc (by omega), b1_s]
  have key := loopP (fun f (_ : Unit) e => f_Rows_canBe_L10 N S (nI n) (cs c d) (nI d) m (fun (z6_5 : Int32) => b1 (f_Rows_canHoldGifts N S (nI n) (cs c d) m) fun r7 => ck (r7 = 0 ∨ r7 = 1) (some r7)) f (nI e)) (fun _ e => d ≤ e ∧ ∀ j, j < e - d → ro n j < qA M (d + j)) (fun o => o = some (tf (rOk M d n))) (qD M) (fun f _ e he hI => by
    show f_Rows_canBe_L10 N S (nI n) (cs c d) (nI d) m _ (f + 1) (nI e) = _ ∨ ∃ x', _ ∧ f_Rows_canBe_L10 N S (nI n) (cs c d) (nI d) m _ (f + 1) (nI e) = _
    obtain ⟨j, rfl⟩ : ∃ j, e = d + j := ⟨e - d, by omega⟩
    have h4 := ro_lt n j
    rw [f_Rows_canBe_L10, hW.2.1, if_neg (nI_ge he (by omega)), pk_sub (by omega), Nat.add_sub_cancel_left, tC_digit hn (by omega), b1_s, tW_isAlt hM hW (by omega) h4, b1_s]
    by_cases q : ro n j < qA M (d + j)
    · refine Or.inr ⟨(), ⟨by omega, fun i hi => ?_⟩, by rw [if_neg (by simp [he, q, tf]), nI_1]⟩
      by_cases w : i = j
      · rw [w]; exact q
      · exact hI.2 i (by omega)
    · refine Or.inl ?_
      rw [if_pos (by simp [q, tf])]
      have : rOk M d n = false := by
        cases e : rOk M d n
        · rfl
        · exact absurd (rOk_j e (show j < qD M - d by omega)) q
      rw [this]
      rfl) (fun f _ hI => by
    show f_Rows_canBe_L10 N S (nI n) (cs c d) (nI d) m _ (f + 1) (nI (qD M)) = _
    rw [f_Rows_canBe_L10, hW.2.1, if_pos (nI_le (Nat.le_refl _) (by omega)), tC_canHold hM hW hc hd hn, b1_s, ck_t (tf_or _)]
    have : (List.range (qD M - d)).all (fun j => decide (ro n j < qA M (d + j))) = true := List.all_eq_true.mpr (fun j hj => decide_eq_true (hI.2 j (List.mem_range.mp hj)))
    unfold rOk gOk
    rw [this, Bool.true_and]) (qD M - d) N () d (by omega) (by omega) ⟨Nat.le_refl _, fun j hj => by omega⟩
  exact key
/-- a step of a judged row; where it is not lawful -/
def jst (M : Mt) (n k c d j : Nat) : Option Nat := if qK M (d + j) (ro n j) = 0 then (if may M c (ro k j) (qO M) then some (c + 8 ^ (4 * qG M (d + j) (ro n j) + ro k j)) else none) else (if ro k j = 0 then some (pas M c (d + j) (ro n j)) else none)
def jrun (M : Mt) (n k d : Nat) : Nat → Nat → Nat → Option Nat × Nat
  | 0, _, c => (none, c)
  | r + 1, j, c => match jst M n k c d j with
    | none => (some j, c)
    | some c' => jrun M n k d r (j + 1) c'
theorem jst_suc {n k c d j c' : Nat} (h : jst M n k c d j = some c') : Suc M (qO M) c (d + j) (ro n j) c' := by
  unfold jst at h
  unfold Suc
  by_cases q : qK M (d + j) (ro n j) = 0
  · rw [if_pos q] at h ⊢
    by_cases w : may M c (ro k j) (qO M) = true
    · rw [if_pos w] at h
      exact ⟨ro k j, ro_lt k j, w, (Option.some.inj h).symm⟩
    · rw [if_neg w] at h
      cases h
  · rw [if_neg q] at h ⊢
    by_cases w : ro k j = 0
    · rw [if_pos w] at h
      exact (Option.some.inj h).symm
    · rw [if_neg w] at h
      cases h
theorem tC_first (hM : qOk M) (hN : 1000000 ≤ N) (hW : CW m 10 M) {d n k : Nat} (hr : rOk M d n = true) (hk : k < 2 ^ 31) : ∀ (r j c fuel : Nat), d + j + r = qD M → r < fuel → Ds M (qO M) (d + j) c → f_Rows_firstUnlawful_L13 N S (nI n) (nI k) (nI d) m (fun (_ : Int64) (_ : Int32) => some ((-1))) fuel (cs c (d + j)) (nI (d + j)) = some (zOpt (jrun M n k d r j c).1) := by
  intro r
  have hD := hM.2.1
  have hn := rOk_n hr
  induction r with
  | zero =>
    intro j c fuel hj hf hc
    obtain ⟨f, rfl⟩ : ∃ q, fuel = q + 1 := ⟨fuel - 1, by omega⟩
    rw [f_Rows_firstUnlawful_L13, hW.2.1, if_pos (nI_le (by omega) (by omega))]
    rfl
  | succ r ih =>
    intro j c fuel hj hf hc
    obtain ⟨f, rfl⟩ : ∃ q, fuel = q + 1 := ⟨fuel - 1, by omega⟩
    have hd : d + j < qD M := by omega
    have ha := rOk_j hr (show j < qD M - d by omega)
    have hg4 := ro_lt k j
    have hq := hM.2.2.2.2.2.2.2 _ _ hd ha
    have hds := Ds_pas hM hc hd ha
    have hO := hM.2.2.1
    rw [f_Rows_firstUnlawful_L13, hW.2.1, if_neg (nI_ge hd (by omega)), pk_sub (by omega), Nat.add_sub_cancel_left, tC_digit (by omega) (by omega), b1_s, tC_digit (by omega) (by omega), b1_s, tW_thing hM hW hd ha, b1_s, tW_passed hM hW hc.1.1 hd ha, b1_s, hW.2.2.1]
    simp only [jn]
    unfold qS
    rw [jrun]
    unfold jst
    by_cases k0 : qK M (d + j) (ro n j) = 0
    · have hs := hq.2.2.1 k0
      have hp : pas M c (d + j) (ro n j) = c := by unfold pas; rw [if_neg (by omega)]
      rw [if_pos k0, if_neg (nI_m1 (by omega)), if_neg (nI_m1 (by omega)), hp, tW_mayGive hM hW hc.1.1 (by omega) hg4 (by omega), b1_s, if_pos k0]
      by_cases w : may M c (ro k j) (qO M) = true
      · have hds2 : Ds M (qO M) (d + (j + 1)) (c + 8 ^ (4 * qG M (d + j) (ro n j) + ro k j)) := Ds_give hc.1 (by have := hc.2.1; omega) (by omega) hc.2.2 hs hg4 w
        rw [w, if_neg (by simp [tf]), t_with hs hg4, b1_s, nI_1, if_pos rfl]
        exact ih (j + 1) _ f (by omega) (by omega) hds2
      · have w' : may M c (ro k j) (qO M) = false := by simpa using w
        rw [w', if_pos (by simp [tf]), if_neg (by simp)]
        rfl
    · rw [if_neg k0, if_pos rfl, if_pos rfl, if_neg k0]
      by_cases w : ro k j = 0
      · rw [if_pos (by rw [w]; rfl), if_pos w, nI_1]
        exact ih (j + 1) _ f (by omega) (by omega) hds
      · rw [if_neg (nI_ne0 (by omega) (by omega)), if_neg w]
        rfl
theorem tC_after (hM : qOk M) (hN : 1000000 ≤ N) (hW : CW m 10 M) {d n k : Nat} (hr : rOk M d n = true) (hk : k < 2 ^ 31) : ∀ (r j c fuel : Nat), d + j + r = qD M → r < fuel → Ds M (qO M) (d + j) c → (jrun M n k d r j c).1 = none → f_Rows_stateAfter_L13 N S (nI n) (nI k) (nI d) m (fun (z : Int64) (_ : Int32) => some z) fuel (cs c (d + j)) (nI (d + j)) = some (cs (jrun M n k d r j c).2 (qD M)) ∧ Ds M (qO M) (qD M) (jrun M n k d r j c).2 := by
  intro r
  have hD := hM.2.1
  have hn := rOk_n hr
  induction r with
  | zero =>
    intro j c fuel hj hf hc _
    obtain ⟨f, rfl⟩ : ∃ q, fuel = q + 1 := ⟨fuel - 1, by omega⟩
    have e : d + j = qD M := by omega
    rw [e] at hc ⊢
    rw [f_Rows_stateAfter_L13, hW.2.1, if_pos (nI_le (by omega) (by omega))]
    exact ⟨rfl, hc⟩
  | succ r ih =>
    intro j c fuel hj hf hc hx
    obtain ⟨f, rfl⟩ : ∃ q, fuel = q + 1 := ⟨fuel - 1, by omega⟩
    have hd : d + j < qD M := by omega
    have ha := rOk_j hr (show j < qD M - d by omega)
    have hg4 := ro_lt k j
    have hq := hM.2.2.2.2.2.2.2 _ _ hd ha
    have hO := hM.2.2.1
    rw [jrun] at hx ⊢
    cases ej : jst M n k c d j with
    | none => rw [ej] at hx; cases hx
    | some c' =>
      rw [ej] at hx
      have hds := Ds_suc hM hc hd ha (jst_suc ej)
      obtain ⟨i1, i2⟩ := ih (j + 1) c' f (by omega) (by omega) hds hx
      refine ⟨?_, i2⟩
      rw [f_Rows_stateAfter_L13, hW.2.1, if_neg (nI_ge hd (by omega)), pk_sub (by omega), Nat.add_sub_cancel_left, tC_digit (by omega) (by omega), b1_s, tW_thing hM hW hd ha, b1_s, tW_passed hM hW hc.1.1 hd ha, b1_s, tC_digit (by omega) (by omega)]
      unfold qS
      unfold jst at ej
      by_cases k0 : qK M (d + j) (ro n j) = 0
      · have hs := hq.2.2.1 k0
        have hp : pas M c (d + j) (ro n j) = c := by unfold pas; rw [if_neg (by omega)]
        rw [if_pos k0] at ej ⊢
        by_cases w : may M c (ro k j) (qO M) = true
        · rw [if_pos w] at ej
          rw [if_neg (nI_m1 (by omega)), b1_s, hp, t_with hs hg4, b1_s, nI_1, Option.some.inj ej]
          exact i1
        · rw [if_neg w] at ej; cases ej
      · rw [if_neg k0] at ej ⊢
        by_cases w : ro k j = 0
        · rw [if_pos w] at ej
          rw [if_pos rfl, nI_1, Option.some.inj ej]
          exact i1
        · rw [if_neg w] at ej; cases ej
end ROWSC
