/-! COST: rows and the ends of the walk; SURE is no more than KNOWN. -/
section ROWBL
variable {M : Mt}
theorem ro_add {n a j : Nat} (hn : n < 4 ^ j) (ha : a < 4) : (∀ i, i < j → ro (n + a * 4 ^ j) i = ro n i) ∧ ro (n + a * 4 ^ j) j = a ∧ n + a * 4 ^ j < 4 ^ (j + 1) := by
  have hp : ∀ i, 0 < 4 ^ i := fun i => Nat.pow_pos (by decide)
  refine ⟨fun i hi => ?_, ?_, ?_⟩
  · unfold ro
    have e : a * 4 ^ j = 4 ^ i * (4 * (a * 4 ^ (j - i - 1))) := by
      have : 4 ^ j = 4 ^ i * (4 * 4 ^ (j - i - 1)) := by
        rw [← Nat.mul_assoc, ← Nat.pow_succ, ← Nat.pow_add]
        congr 1
        omega
      rw [this]
      rw [Nat.mul_left_comm, Nat.mul_left_comm a 4]
    rw [e, Nat.add_mul_div_left _ _ (hp i), Nat.add_mul_mod_self_left]
  · unfold ro
    rw [Nat.mul_comm, Nat.add_mul_div_left _ _ (hp j), Nat.div_eq_of_lt hn, Nat.zero_add, Nat.mod_eq_of_lt ha]
  · have : a * 4 ^ j ≤ 3 * 4 ^ j := Nat.mul_le_mul_right _ (by omega)
    rw [Nat.pow_succ]
    omega
theorem trc_c {n n' d c : Nat} : ∀ {j : Nat}, (∀ i, i < j → ro n i = ro n' i) → trc M n d c j = trc M n' d c j := by
  intro j
  induction j with
  | zero => intro _; rfl
  | succ j ih =>
    intro h
    show tst M (trc M n d c j) (d + j) (ro n j) = tst M (trc M n' d c j) (d + j) (ro n' j)
    rw [ih (fun i hi => h i (by omega)), h j (by omega)]
/-- every end is one of a row -/
theorem Bl_row (hM : qOk M) {d c T : Nat} : ∀ {r j n : Nat}, d + j + r = qD M → n < 4 ^ j → (∀ i, i < j → ro n i < qA M (d + i)) → Bl M r (trc M n d c j) T → ∃ n', n' < 4 ^ (j + r) ∧ (∀ i, i < j + r → ro n' i < qA M (d + i)) ∧ T = trc M n' d c (j + r) := by
  intro r
  induction r with
  | zero => intro j n _ hn h hB; exact ⟨n, hn, h, hB⟩
  | succ r ih =>
    intro j n hj hn h hB
    obtain ⟨a, a1, a2⟩ := hB
    have e : qD M - (r + 1) = d + j := by omega
    rw [e] at a1 a2
    have hA := hM.2.2.2.2.2.2.1 (d + j) (by omega)
    obtain ⟨b1', b2', b3'⟩ := ro_add hn (show a < 4 by omega)
    have et : trc M (n + a * 4 ^ j) d c (j + 1) = tst M (trc M n d c j) (d + j) a := by
      show tst M (trc M (n + a * 4 ^ j) d c j) (d + j) (ro (n + a * 4 ^ j) j) = _
      rw [trc_c b1', b2']
    rw [← et] at a2
    obtain ⟨n', k1, k2, k3⟩ := ih (j := j + 1) (by omega) b3' (fun i hi => by
      by_cases q : i = j
      · rw [q, b2']; exact a1
      · rw [b1' i (by omega)]; exact h i (by omega)) a2
    rw [show j + 1 + r = j + (r + 1) by omega] at k1 k2 k3
    exact ⟨n', k1, k2, k3⟩
theorem row_Bl {d c n : Nat} (h : ∀ i, d + i < qD M → ro n i < qA M (d + i)) : ∀ {r j : Nat}, d + j + r = qD M → Bl M r (trc M n d c j) (trc M n d c (j + r)) := by
  intro r
  induction r with
  | zero => intro j _; rfl
  | succ r ih =>
    intro j hj
    have e : qD M - (r + 1) = d + j := by omega
    refine ⟨ro n j, by rw [e]; exact h j (by omega), ?_⟩
    rw [e, show j + (r + 1) = j + 1 + r by omega]
    exact ih (j := j + 1) (by omega)
theorem rOk_of (hM : qOk M) {d n : Nat} (hn : n < 4 ^ (qD M - d)) (h : ∀ i, i < qD M - d → ro n i < qA M (d + i)) : rOk M d n = true := by
  have hD := hM.2.1
  unfold rOk
  rw [Bool.and_eq_true, Bool.and_eq_true, List.all_eq_true]
  have : 4 ^ (qD M - d) ≤ 4 ^ 6 := Nat.pow_le_pow_right (by decide) (by omega)
  refine ⟨fun j hj => decide_eq_true (h j (List.mem_range.mp hj)), decide_eq_true ?_, decide_eq_true (Nat.div_eq_of_lt hn)⟩
  have : (4 : Nat) ^ 6 = 4096 := rfl
  omega
theorem rOk_lt {d n : Nat} (h : rOk M d n = true) : n < 4 ^ (qD M - d) := by
  unfold rOk at h
  rw [Bool.and_eq_true, Bool.and_eq_true] at h
  have h2 := of_decide_eq_true h.2.2
  rcases Nat.lt_or_ge n (4 ^ (qD M - d)) with q | q
  · exact q
  · have := Nat.div_pos q (Nat.pow_pos (by decide))
    omega
/-- some row keeps at least what is SURE -/
theorem sure_RF (hM : qOk M) (hE : qE M) {g b n d c : Nat} (hL : Lg M c) (hcd : tt c ≤ d) (hh : hl c ≤ qO M) (hr : ∀ j, d + j < qD M → ro n j < qA M (d + j)) : ∀ j, d + j ≤ qD M → ∃ c', RF M n d c j c' ∧ Ds M (qO M) (d + j) c' ∧ vS M false (qO M) g b (qD M - d) c ≤ vS M false (qO M) g b (qD M - (d + j)) c' := by
  have hD := hM.2.1
  intro j
  induction j with
  | zero => intro _; exact ⟨c, rfl, ⟨hL, hcd, hh⟩, Int.le_refl _⟩
  | succ j ih =>
    intro hj
    obtain ⟨c1, h1, h2, h3⟩ := ih (by omega)
    have ha := hr j (by omega)
    have hdj : d + j < qD M := by omega
    have e : qD M - (d + j) = (qD M - (d + (j + 1))) + 1 := by omega
    have e2 : qD M - ((qD M - (d + (j + 1))) + 1) = d + j := by omega
    rw [e] at h3
    have hv : vS M false (qO M) g b (qD M - (d + (j + 1)) + 1) c1 = minA (qA M (d + j)) (fun a => aft M (qO M) (vS M false (qO M) g b (qD M - (d + (j + 1)))) c1 (d + j) a) := by
      rw [vS, e2]
      rfl
    rw [hv] at h3
    have h4 := (minA_is (fun a => aft M (qO M) (vS M false (qO M) g b (qD M - (d + (j + 1)))) c1 (d + j) a) (qA M (d + j))).1 (ro n j) ha
    have h5 := Int.le_trans h3 h4
    have fin : ∀ c', Suc M (qO M) c1 (d + j) (ro n j) c' → aft M (qO M) (vS M false (qO M) g b (qD M - (d + (j + 1)))) c1 (d + j) (ro n j) = vS M false (qO M) g b (qD M - (d + (j + 1))) c' → ∃ c', RF M n d c (j + 1) c' ∧ Ds M (qO M) (d + (j + 1)) c' ∧ vS M false (qO M) g b (qD M - d) c ≤ vS M false (qO M) g b (qD M - (d + (j + 1))) c' := by
      intro c' hs hq
      refine ⟨c', ⟨c1, h1, hs⟩, Ds_suc hM h2 hdj ha hs, ?_⟩
      rw [← hq]
      exact h5
    unfold aft at fin
    by_cases k0 : qK M (d + j) (ro n j) = 0
    · rw [if_pos k0] at fin
      obtain ⟨x, hx⟩ := gif_some hM hE (ho := qO M) (s := qG M (d + j) (ro n j)) (F := vS M false (qO M) g b (qD M - (d + (j + 1)))) h2.1
      rw [hx] at fin
      unfold gif at hx
      obtain ⟨to, t1, t2, t3⟩ := (mxo_isG hx).1
      exact fin (c1 + 8 ^ (4 * qG M (d + j) (ro n j) + to)) (by unfold Suc; rw [if_pos k0]; exact ⟨to, t1, t2, rfl⟩) t3
    · rw [if_neg k0] at fin
      exact fin _ (by unfold Suc; rw [if_neg k0]) rfl
end ROWBL
