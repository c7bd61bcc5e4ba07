/-! SIGHTS: what can be reached, by tables. -/
theorem fo_s {α : Type} {f : α → Nat → α} : ∀ (k : Nat) (a : α) (j : Nat), fo f a j (k + 1) = f (fo f a j k) (j + k)
  | 0, a, j => rfl
  | k + 1, a, j => by
    rw [fo, fo_s k (f a j) (j + 1), fo]
    rw [show j + 1 + k = j + (k + 1) by omega]
theorem sumA_s (n : Nat) (f : Nat → Int) : sumA (n + 1) f = sumA n f + f n := by
  unfold sumA
  rw [fo_s, Nat.zero_add]
theorem minA_s (n : Nat) (f : Nat → Int) : minA (n + 1) f = if f n < minA n f then f n else minA n f := by
  unfold minA
  rw [fo_s, Nat.zero_add]
theorem minA_is (f : Nat → Int) : ∀ n, (∀ i, i < n → minA n f ≤ f i) ∧ minA n f ≤ f 0 ∧ ((∃ i, i < n ∧ minA n f = f i) ∨ n = 0 ∧ minA n f = f 0)
  | 0 => ⟨fun i hi => by omega, by unfold minA; exact Int.le_refl _, Or.inr ⟨rfl, rfl⟩⟩
  | n + 1 => by
    obtain ⟨h1, h2, h3⟩ := minA_is f n
    rw [minA_s]
    by_cases q : f n < minA n f
    · rw [if_pos q]
      refine ⟨fun i hi => ?_, by omega, Or.inl ⟨n, by omega, rfl⟩⟩
      by_cases e : i = n
      · rw [e]; exact Int.le_refl _
      · have := h1 i (by omega); omega
    · rw [if_neg q]
      refine ⟨fun i hi => ?_, h2, ?_⟩
      · by_cases e : i = n
        · rw [e]; omega
        · exact h1 i (by omega)
      · rcases h3 with ⟨i, hi, e⟩ | ⟨e1, e2⟩
        · exact Or.inl ⟨i, by omega, e⟩
        · exact Or.inl ⟨0, by omega, e2⟩
theorem minA_1 (f : Nat → Int) : minA 1 f = f 0 := by
  rw [minA_s]
  show (if f 0 < f 0 then f 0 else f 0) = f 0
  split <;> rfl
theorem sumA_b {f : Nat → Int} {B : Int} : ∀ {n : Nat}, (∀ i, i < n → -B ≤ f i ∧ f i ≤ B) → -(n * B) ≤ sumA n f ∧ sumA n f ≤ n * B
  | 0, _ => by
    show -(((0 : Nat) : Int) * B) ≤ 0 ∧ 0 ≤ ((0 : Nat) : Int) * B
    simp
  | n + 1, h => by
    have h1 := sumA_b (n := n) (fun i hi => h i (by omega))
    have h2 := h n (by omega)
    rw [sumA_s]
    have e : ((n + 1 : Nat) : Int) * B = n * B + B := by rw [Int.natCast_add, Int.add_mul]; simp
    rw [e]
    omega
/-- a state at a day -/
def Ds (M : Mt) (ho d c : Nat) : Prop := Lg M c ∧ tt c ≤ d ∧ hl c ≤ ho
theorem Lg_cme {M : Mt} (hM : qOk M) {c h : Nat} (hL : Lg M c) (hh : h < qH M) : Lg M (cme c h) ∧ tt (cme c h) = tt c ∧ hl (cme c h) = hl c := by
  have hH := hM.1
  have h3 : h < 3 := by omega
  have e : tt (cme c h) = tt c := by
    unfold tt th
    rw [cme_am h3 (by omega) (by omega), cme_am h3 (by omega) (by omega), cme_am h3 (by omega) (by omega), cme_am h3 (by omega) (by omega), cme_am h3 (by omega) (by omega), cme_am h3 (by omega) (by omega), cme_am h3 (by omega) (by omega), cme_am h3 (by omega) (by omega), cme_am h3 (by omega) (by omega), cme_am h3 (by omega) (by omega), cme_am h3 (by omega) (by omega), cme_am h3 (by omega) (by omega)]
  refine ⟨⟨cme_lt hL.1 h3, fun k hk hb => ?_, fun k hk hl => ?_, fun s k hs hk hp => ?_, by rw [e]; exact hL.2.2.2.2⟩, e, ?_⟩
  · rw [cme_cb h3 hk] at hb
    cases q : cb c k
    · rw [q] at hb
      simp at hb
      omega
    · exact hL.2.1 k hk q
  · rw [cme_cb h3 (by omega), hL.2.2.1 k hk hl]
    rfl
  · rw [cme_am h3 hs (by omega)] at hp
    rw [cme_cb h3 hk, hL.2.2.2.1 s k hs hk hp]
    rfl
  · unfold hl
    rw [cme_am h3 (by omega) (by omega), cme_am h3 (by omega) (by omega), cme_am h3 (by omega) (by omega)]
theorem Ds_pas {M : Mt} (hM : qOk M) {ho d c a : Nat} (h : Ds M ho d c) (hd : d < qD M) (ha : a < qA M d) : Ds M ho (d + 1) (pas M c d a) := by
  unfold pas
  split
  · next q =>
    have := Lg_cme hM h.1 ((hM.2.2.2.2.2.2.2 d a hd ha).2.2.2 q)
    exact ⟨this.1, by have := h.2.1; omega, by rw [this.2.2]; exact h.2.2⟩
  · exact ⟨h.1, by have := h.2.1; omega, h.2.2⟩
theorem hl_give {c s h : Nat} (hs : s < 3) (hh : h < 4) (h7 : am c s h < 7) : hl (c + 8 ^ (4 * s + h)) = hl c + (if h = 3 then 1 else 0) := by
  have := th_add hs hh h7 (k := 3) (by omega)
  unfold th at this
  unfold hl
  rw [this]
  by_cases e : h = 3
  · rw [if_pos e, if_pos e.symm]
  · rw [if_neg e, if_neg (fun w => e w.symm)]
theorem Ds_give {M : Mt} {ho d c s to : Nat} (hL : Lg M c) (ht : tt c < d) (hd : d ≤ 6) (hh : hl c ≤ ho) (hs : s < 3) (h4 : to < 4) (hm : may M c to ho = true) : Ds M ho d (c + 8 ^ (4 * s + to)) := by
  have h7 : am c s to < 7 := am7 hs h4 (by omega)
  unfold may at hm
  refine ⟨Lg_give hL hs h4 ?_ (by omega), by rw [tt_add hs h4 h7]; omega, ?_⟩
  · by_cases e : to = 3
    · exact Or.inl e
    · rw [if_neg e] at hm
      simp at hm
      exact Or.inr hm.2
  · rw [hl_give hs h4 h7]
    by_cases e : to = 3
    · rw [if_pos e] at hm
      simp at hm
      rw [if_pos e]
      omega
    · rw [if_neg e]
      omega
theorem gif_some {M : Mt} (hM : qOk M) (hE : qE M) {ho c s : Nat} {F : Nat → Int} (hL : Lg M c) : ∃ x, gif M ho F c s = some x := by
  cases e : gif M ho F c s with
  | some x => exact ⟨x, rfl⟩
  | none =>
    obtain ⟨to, h3, h1, h2⟩ := Lg_one hE hM hL
    have := mxo_none e to (by omega)
    unfold may at this
    rw [if_neg (by omega)] at this
    simp [h1, h2] at this
theorem vS_b {M : Mt} (hM : qOk M) (hE : qE M) {mean : Bool} {ho g b : Nat} : ∀ (n c : Nat), n ≤ qD M → Ds M ho (qD M - n) c → -(3000 * 36 ^ n) ≤ vS M mean ho g b n c ∧ vS M mean ho g b n c ≤ 3000 * 36 ^ n
  | 0, c, _, h => by
    have := gE_b hM hE (g := g) (b := b) h.1
    rw [vS]
    omega
  | n + 1, c, hn, h => by
    have hd : qD M - (n + 1) < qD M := by omega
    have hA := (hM.2.2.2.2.2.2.1 _ hd)
    have ed : qD M - (n + 1) + 1 = qD M - n := by omega
    have hD := hM.2.1
    have key : ∀ a, a < qA M (qD M - (n + 1)) → -(3000 * 36 ^ n) ≤ aft M ho (vS M mean ho g b n) c (qD M - (n + 1)) a ∧ aft M ho (vS M mean ho g b n) c (qD M - (n + 1)) a ≤ 3000 * 36 ^ n := by
      intro a ha
      unfold aft
      split
      · next q =>
        obtain ⟨x, hx⟩ := gif_some hM hE (ho := ho) (s := qG M (qD M - (n + 1)) a) (F := vS M mean ho g b n) h.1
        rw [hx]
        refine mxo_bd (P := fun x => -(3000 * 36 ^ n) ≤ x ∧ x ≤ 3000 * 36 ^ n) (fun to ht hp => ?_) hx
        refine vS_b hM hE n _ (by omega) ?_
        have := h.2.1
        exact Ds_give h.1 (by omega) (by omega) h.2.2 ((hM.2.2.2.2.2.2.2 _ a hd ha).2.2.1 q) ht hp
      · refine vS_b hM hE n _ (by omega) ?_
        rw [← ed]
        exact Ds_pas hM h hd ha
    rw [vS]
    have e36 : (36 : Int) ^ (n + 1) = 36 ^ n * 36 := by rw [Int.pow_succ]
    have hpos : (0 : Int) ≤ 36 ^ n := Int.pow_nonneg (by omega)
    rw [e36]
    split
    · have := sumA_b (n := qA M (qD M - (n + 1))) (B := 12 * (3000 * 36 ^ n)) (f := fun a => (qC M (qD M - (n + 1)) a : Int) * aft M ho (vS M mean ho g b n) c (qD M - (n + 1)) a) (fun i hi => by
        have hc := (hM.2.2.2.2.2.2.2 _ i hd hi).1
        obtain ⟨k1, k2⟩ := key i hi
        have hc0 : (0 : Int) ≤ (qC M (qD M - (n + 1)) i : Int) := Int.natCast_nonneg _
        have hc1 : (qC M (qD M - (n + 1)) i : Int) ≤ 12 := by omega
        refine ⟨?_, ?_⟩
        · have a1 : (qC M (qD M - (n + 1)) i : Int) * (-(3000 * 36 ^ n)) ≤ (qC M (qD M - (n + 1)) i : Int) * aft M ho (vS M mean ho g b n) c (qD M - (n + 1)) i := Int.mul_le_mul_of_nonneg_left k1 hc0
          have a2 : (qC M (qD M - (n + 1)) i : Int) * (3000 * 36 ^ n) ≤ 12 * (3000 * 36 ^ n) := Int.mul_le_mul_of_nonneg_right hc1 (by omega)
          rw [Int.mul_neg] at a1
          show -(12 * (3000 * 36 ^ n)) ≤ (qC M (qD M - (n + 1)) i : Int) * aft M ho (vS M mean ho g b n) c (qD M - (n + 1)) i
          omega
        · have a1 : (qC M (qD M - (n + 1)) i : Int) * aft M ho (vS M mean ho g b n) c (qD M - (n + 1)) i ≤ (qC M (qD M - (n + 1)) i : Int) * (3000 * 36 ^ n) := Int.mul_le_mul_of_nonneg_left k2 hc0
          have a2 : (qC M (qD M - (n + 1)) i : Int) * (3000 * 36 ^ n) ≤ 12 * (3000 * 36 ^ n) := Int.mul_le_mul_of_nonneg_right hc1 (by omega)
          exact Int.le_trans a1 a2)
      have h3 : ((qA M (qD M - (n + 1)) : Nat) : Int) * (12 * (3000 * 36 ^ n)) ≤ 3 * (12 * (3000 * 36 ^ n)) := Int.mul_le_mul_of_nonneg_right (by omega) (by omega)
      omega
    · obtain ⟨_, _, h3⟩ := minA_is (fun a => aft M ho (vS M mean ho g b n) c (qD M - (n + 1)) a) (qA M (qD M - (n + 1)))
      rcases h3 with ⟨i, hi, e⟩ | ⟨e, _⟩
      · rw [e]
        have := key i hi
        omega
      · omega
theorem p36_le {n : Nat} (h : n ≤ 6) : (3000 * 36 ^ n : Int) ≤ 6530347008000 := by
  rcases (by omega : n = 0 ∨ n = 1 ∨ n = 2 ∨ n = 3 ∨ n = 4 ∨ n = 5 ∨ n = 6) with rfl | rfl | rfl | rfl | rfl | rfl | rfl <;> decide
theorem vS_sm {M : Mt} (hM : qOk M) (hE : qE M) {mean : Bool} {ho g b n c : Nat} (hn : n ≤ qD M) (h : Ds M ho (qD M - n) c) : sm6 (vS M mean ho g b n c) := by
  have h1 := vS_b hM hE (mean := mean) (g := g) (b := b) n c hn h
  have h2 := p36_le (n := n) (by have := hM.2.1; omega)
  exact ⟨by omega, by omega⟩
theorem aft_sm {M : Mt} (hM : qOk M) (hE : qE M) {mean : Bool} {ho g b n c a : Nat} (hn : n < qD M) (h : Ds M ho (qD M - (n + 1)) c) (ha : a < qA M (qD M - (n + 1))) : sm6 (aft M ho (vS M mean ho g b n) c (qD M - (n + 1)) a) := by
  have hd : qD M - (n + 1) < qD M := by omega
  have ed : qD M - (n + 1) + 1 = qD M - n := by omega
  have hD := hM.2.1
  unfold aft
  split
  · next q =>
    obtain ⟨x, hx⟩ := gif_some hM hE (ho := ho) (s := qG M (qD M - (n + 1)) a) (F := vS M mean ho g b n) h.1
    rw [hx]
    refine mxo_bd (P := sm6) (fun to ht hp => ?_) hx
    refine vS_sm hM hE (by omega) ?_
    have := h.2.1
    exact Ds_give h.1 (by omega) (by omega) h.2.2 ((hM.2.2.2.2.2.2.2 _ a hd ha).2.2.1 q) ht hp
  · refine vS_sm hM hE (by omega) ?_
    rw [← ed]
    exact Ds_pas hM h hd ha
