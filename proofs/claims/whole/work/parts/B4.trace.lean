/-! KNOWN: the trace of a row; what comes of the row is what comes of its trace. -/
def tst (M : Mt) (t d a : Nat) : Nat := if qK M d a = 0 then t + 8 ^ (4 * qG M d a + lmk M t) else pas M t d a
def trc (M : Mt) (n d c : Nat) : Nat → Nat
  | 0 => dg c 12 * 8 ^ 12
  | j + 1 => tst M (trc M n d c j) (d + j) (ro n j)
def Bt (M : Mt) (k to : Nat) : Bool := (List.range 8).any (fun w => wOk (qH M) (qL M) w && (decide (lmF (qH M) (qL M) w = k) && decide (w / 2 ^ to % 2 = 1)))
/-- NOW's things, with another's who came -/
def bas (c t : Nat) : Nat := c % 8 ^ 12 + dg t 12 * 8 ^ 12
theorem lmF_4 : ∀ H, H < 4 → ∀ L, L < 8 → (∃ h, h < H ∧ lt1 L h = false) → ∀ w, w < 8 → lmF H L w < 4 := by decide +kernel
section TRACE
variable {M : Mt}
theorem lmk_4 (hM : qOk M) (hE : qE M) (t : Nat) : lmk M t < 4 := by
  have hH := hM.1
  exact lmF_4 (qH M) (by omega) (qL M) (qL8 hM) hE _ (dg_lt t 12)
theorem Bt_eq (hM : qOk M) {w : Nat} (hw : w < 8) (hk : wOk (qH M) (qL M) w = true) (to : Nat) : Bt M (lmF (qH M) (qL M) w) to = decide (w / 2 ^ to % 2 = 1) := by
  have hH := hM.1
  rw [Bool.eq_iff_iff]
  unfold Bt
  rw [List.any_eq_true]
  constructor
  · rintro ⟨w', h1, h2⟩
    rw [List.mem_range] at h1
    rw [Bool.and_eq_true, Bool.and_eq_true] at h2
    have e : w' = w := lmF_inj (qH M) (by omega) (qL M) (qL8 hM) w' h1 w hw h2.1 hk (of_decide_eq_true h2.2.1)
    rw [← e]
    exact h2.2.2
  · intro h
    refine ⟨w, List.mem_range.mpr hw, ?_⟩
    rw [Bool.and_eq_true, Bool.and_eq_true]
    exact ⟨hk, decide_eq_true rfl, h⟩
theorem dg_low {c : Nat} (hc : c < 8 ^ 13) {i : Nat} (hi : i < 12) : dg (c % 8 ^ 12) i = dg c i := by
  have h1 : c % 8 ^ 12 < 8 ^ 12 := Nat.mod_lt _ (Nat.pow_pos (by decide))
  have h2 : c / 8 ^ 12 < 8 := by
    rw [Nat.div_lt_iff_lt_mul (Nat.pow_pos (by decide)), Nat.mul_comm, ← Nat.pow_succ]
    exact hc
  have h3 := dg_adds (n := c % 8 ^ 12) (i := 12) (c / 8 ^ 12) (by rw [dg_big h1 (Nat.le_refl _)]; omega) i
  rw [if_neg (by omega), Nat.add_zero, Nat.mod_add_div' c (8 ^ 12)] at h3
  exact h3.symm
theorem dg_bas {c t : Nat} (hc : c < 8 ^ 13) {i : Nat} (hi : i ≤ 12) : dg (bas c t) i = if i = 12 then dg t 12 else dg c i := by
  have h1 : c % 8 ^ 12 < 8 ^ 12 := Nat.mod_lt _ (Nat.pow_pos (by decide))
  have h0 := dg_big h1 (Nat.le_refl _)
  unfold bas
  rw [dg_adds (dg t 12) (by rw [h0]; have := dg_lt t 12; omega)]
  by_cases q : i = 12
  · rw [if_pos q, if_pos q, q, h0, Nat.zero_add]
  · rw [if_neg q, if_neg q, Nat.add_zero]
    exact dg_low hc (by omega)
theorem tt_of {c c' : Nat} (h : ∀ i, i < 12 → dg c i = dg c' i) : tt c = tt c' ∧ hl c = hl c' := by
  have e : ∀ s k, s < 3 → k < 4 → am c s k = am c' s k := fun s k hs hk => h _ (by omega)
  constructor
  · unfold tt th
    rw [e 0 0 (by omega) (by omega), e 1 0 (by omega) (by omega), e 2 0 (by omega) (by omega), e 0 1 (by omega) (by omega), e 1 1 (by omega) (by omega), e 2 1 (by omega) (by omega), e 0 2 (by omega) (by omega), e 1 2 (by omega) (by omega), e 2 2 (by omega) (by omega), e 0 3 (by omega) (by omega), e 1 3 (by omega) (by omega), e 2 3 (by omega) (by omega)]
  · unfold hl
    rw [e 0 3 (by omega) (by omega), e 1 3 (by omega) (by omega), e 2 3 (by omega) (by omega)]
theorem SD_cong {B : Nat → Nat → Bool} {ho g f : Nat} : ∀ {k t t' h c h' c' : Nat}, (∀ a, a < 12 → dg t a = dg t' a) → SD B ho g f k t h c h' c' → SD B ho g f k t' h c h' c' := by
  intro k
  induction k with
  | zero => intro t t' h c h' c' _ q; exact q
  | succ k ih =>
    intro t t' h c h' c' e q
    obtain ⟨a, to, q1, q2, q3, q4, q5, q6⟩ := q
    have q3' : 0 < dg t' a := by rw [← e a q1]; exact q3
    exact ⟨a, to, q1, q2, q3', q4, q5, ih (fun a' ha' => by rw [dg_sub q3, dg_sub q3', e a' ha']) q6⟩
theorem SD_shift {B : Nat → Nat → Bool} {ho g f x : Nat} : ∀ {k t h c h' c' : Nat}, SD B ho g f k t h c h' c' → SD B ho g f k t h (c + x) h' (c' + x) := by
  intro k
  induction k with
  | zero => intro t h c h' c' q; exact ⟨q.1, by rw [q.2]⟩
  | succ k ih =>
    intro t h c h' c' q
    obtain ⟨a, to, q1, q2, q3, q4, q5, q6⟩ := q
    refine ⟨a, to, q1, q2, q3, q4, q5, ?_⟩
    rw [Nat.add_right_comm]
    exact ih q6
theorem SD_back {B : Nat → Nat → Bool} {ho g f x : Nat} : ∀ {k t h c h' c' : Nat}, SD B ho g f k t h (c + x) h' c' → ∃ c1, c' = c1 + x ∧ SD B ho g f k t h c h' c1 := by
  intro k
  induction k with
  | zero => intro t h c h' c' q; exact ⟨c, q.2, q.1, rfl⟩
  | succ k ih =>
    intro t h c h' c' q
    obtain ⟨a, to, q1, q2, q3, q4, q5, q6⟩ := q
    rw [Nat.add_right_comm] at q6
    obtain ⟨c1, r1, r2⟩ := ih q6
    exact ⟨c1, r1, a, to, q1, q2, q3, q4, q5, r2⟩
theorem SD_hl {B : Nat → Nat → Bool} {ho g f : Nat} : ∀ {k t h c h' c' : Nat}, tt c + k ≤ 6 → h = hl c → SD B ho g f k t h c h' c' → h' = hl c' ∧ tt c' = tt c + k ∧ dg c' 12 = dg c 12 := by
  intro k
  induction k with
  | zero => intro t h c h' c' _ e q; rw [q.2, q.1]; exact ⟨e, rfl, rfl⟩
  | succ k ih =>
    intro t h c h' c' hk e q
    obtain ⟨a, to, q1, q2, q3, q4, q5, q6⟩ := q
    have h7 : am c (a / 4) to < 7 := am7 (by omega) q2 (by omega)
    have e1 := tt_add (c := c) (s := a / 4) (h := to) (by omega) q2 h7
    have e2 := hl_give (c := c) (s := a / 4) (h := to) (by omega) q2 h7
    obtain ⟨r1, r2, r3⟩ := ih (by rw [e1]; omega) (by rw [e2, e]; rfl) q6
    refine ⟨r1, by rw [r2, e1]; omega, ?_⟩
    rw [r3, dg_add h7, if_neg (by omega)]
    rfl
end TRACE
