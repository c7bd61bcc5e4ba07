/-! Loops as folds; what the reference's small methods answer of the matter. -/
def fo {α : Type} (f : α → Nat → α) : α → Nat → Nat → α
  | a, _, 0 => a
  | a, j, k + 1 => fo f (f a j) (j + 1) k
theorem loopI {α β : Type} (W : Nat → α → Nat → β) (I : α → Nat → Prop) (f : α → Nat → α) (e : Nat) (K : α → β) (step : ∀ n a j, j < e → I a j → W (n + 1) a j = W n (f a j) (j + 1)) (pres : ∀ a j, j < e → I a j → I (f a j) (j + 1)) (stop : ∀ n a, I a e → W (n + 1) a e = K a) : ∀ k n a j, j + k = e → k < n → I a j → W n a j = K (fo f a j k)
  | 0, n, a, j, hj, hn, hI => by
    obtain ⟨n, rfl⟩ : ∃ q, n = q + 1 := ⟨n - 1, by omega⟩
    have : j = e := by omega
    subst this
    exact stop n a hI
  | k + 1, n, a, j, hj, hn, hI => by
    obtain ⟨n, rfl⟩ : ∃ q, n = q + 1 := ⟨n - 1, by omega⟩
    rw [step n a j (by omega) hI, fo]
    exact loopI W I f e K step pres stop k n _ _ (by omega) (by omega) (pres a j (by omega) hI)
theorem loopF {α β : Type} (W : Nat → α → Nat → β) (f : α → Nat → α) (e : Nat) (K : α → β) (step : ∀ n a j, j < e → W (n + 1) a j = W n (f a j) (j + 1)) (stop : ∀ n a, W (n + 1) a e = K a) (k n : Nat) (a : α) (j : Nat) (hj : j + k = e) (hn : k < n) : W n a j = K (fo f a j k) :=
  loopI W (fun _ _ => True) f e K (fun n a j h _ => step n a j h) (fun _ _ _ _ => trivial) (fun n a _ => stop n a) k n a j hj hn trivial
theorem fo_I {α : Type} (I : α → Nat → Prop) {f : α → Nat → α} : ∀ (k : Nat) (a : α) (j : Nat), I a j → (∀ a i, j ≤ i → i < j + k → I a i → I (f a i) (i + 1)) → I (fo f a j k) (j + k)
  | 0, a, j, h, _ => h
  | k + 1, a, j, h, hs => by
    rw [fo, show j + (k + 1) = (j + 1) + k by omega]
    exact fo_I I k _ _ (hs a j (by omega) (by omega) h) (fun a i h1 h2 => hs a i (by omega) (by omega))
theorem fo_more {α : Type} {f : α → Nat → α} : ∀ (k q : Nat) (a : α) (j : Nat), (∀ a i, j + k ≤ i → i < j + k + q → f a i = a) → fo f a j (k + q) = fo f a j k
  | 0, 0, a, j, _ => rfl
  | 0, q + 1, a, j, h => by
    rw [show 0 + (q + 1) = q + 1 by omega]
    show fo f (f a j) (j + 1) q = a
    rw [h a j (by omega) (by omega)]
    have := fo_more 0 q a (j + 1) (fun a i hi h2 => h a i (by omega) (by omega))
    rw [Nat.zero_add] at this
    exact this
  | k + 1, q, a, j, h => by
    rw [show k + 1 + q = (k + q) + 1 by omega, fo, fo]
    exact fo_more k q _ _ (fun a i hi h2 => h a i (by omega) (by omega))
theorem fo_rel {α β : Type} (R : α → β → Nat → Prop) {f : α → Nat → α} {g : β → Nat → β} : ∀ (k : Nat) (a : α) (b : β) (j : Nat), R a b j → (∀ a b i, j ≤ i → i < j + k → R a b i → R (f a i) (g b i) (i + 1)) → R (fo f a j k) (fo g b j k) (j + k)
  | 0, a, b, j, h, _ => h
  | k + 1, a, b, j, h, hs => by
    rw [fo, fo, show j + (k + 1) = (j + 1) + k by omega]
    exact fo_rel R k _ _ _ (hs a b j (by omega) (by omega) h) (fun a b i h1 h2 => hs a b i (by omega) (by omega))
theorem fo_congr {α : Type} {f g : α → Nat → α} : ∀ (k : Nat) (a : α) (j : Nat), (∀ a i, j ≤ i → i < j + k → f a i = g a i) → fo f a j k = fo g a j k
  | 0, _, _, _ => rfl
  | k + 1, a, j, h => by
    rw [fo, fo, h a j (by omega) (by omega)]
    exact fo_congr k _ _ (fun a i h1 h2 => h a i (by omega) (by omega))
section RWILL
variable {N : Nat} {m : Mm} {M : Mt}
theorem r_ix2 (d a w : Nat) : (3 : Int32) * ((3 : Int32) * nI d + nI a) + nI w = nI (3 * (3 * d + a) + w) := by
  show nI 3 * (nI 3 * nI d + nI a) + nI w = _
  rw [pk_mul, nI_add, pk_mul, nI_add]
theorem r_ix3 (h s : Nat) : (3 : Int32) * nI h + nI s = nI (3 * h + s) := by
  show nI 3 * nI h + nI s = _
  rw [pk_mul, nI_add]
theorem tR_alt0 (hM : qOk M) (hW : RW m M) {d a : Nat} (hd : d < qD M) (ha : a < qA M d) : f_Mo_altOf N (nI d) (nI a) 0 m = some (nI (qC M d a)) := by
  have hD := hM.2.1
  have hA := (hM.2.2.2.2.2.2.1 d hd).2
  unfold f_Mo_altOf
  show ck (ix (3 * (3 * nI d + nI a) + nI 0) 54) (some (mX m 9 (3 * (3 * nI d + nI a) + nI 0).toNatClampNeg)) = _
  rw [r_ix2, ck_t (nI_in (by omega) (by omega)), nI_clamp (by omega)]
  exact congrArg some (hW.2.2.2.2.2.2 d a hd ha).1
theorem tR_alt1 (hM : qOk M) (hW : RW m M) {d a : Nat} (hd : d < qD M) (ha : a < qA M d) : f_Mo_altOf N (nI d) (nI a) 1 m = some (nI (qK M d a)) := by
  have hD := hM.2.1
  have hA := (hM.2.2.2.2.2.2.1 d hd).2
  unfold f_Mo_altOf
  show ck (ix (3 * (3 * nI d + nI a) + nI 1) 54) (some (mX m 9 (3 * (3 * nI d + nI a) + nI 1).toNatClampNeg)) = _
  rw [r_ix2, ck_t (nI_in (by omega) (by omega)), nI_clamp (by omega)]
  exact congrArg some (hW.2.2.2.2.2.2 d a hd ha).2.1
theorem tR_alt2 (hM : qOk M) (hW : RW m M) {d a : Nat} (hd : d < qD M) (ha : a < qA M d) : f_Mo_altOf N (nI d) (nI a) 2 m = some (qT M d a) := by
  have hD := hM.2.1
  have hA := (hM.2.2.2.2.2.2.1 d hd).2
  unfold f_Mo_altOf
  show ck (ix (3 * (3 * nI d + nI a) + nI 2) 54) (some (mX m 9 (3 * (3 * nI d + nI a) + nI 2).toNatClampNeg)) = _
  rw [r_ix2, ck_t (nI_in (by omega) (by omega)), nI_clamp (by omega)]
  exact congrArg some (hW.2.2.2.2.2.2 d a hd ha).2.2
theorem tR_in {x : Nat} (hx : x < 2 ^ 31) {a b : Nat} (ha : a < 2 ^ 31) (hb : b < 2 ^ 31) : f_Mo_in N (nI x) (nI a) (nI b) = some (tf (decide (a ≤ x) && decide (x ≤ b))) := by
  unfold f_Mo_in
  by_cases h1 : a ≤ x
  · rw [if_neg (nI_nlt h1 (by omega))]
    by_cases h2 : x ≤ b
    · rw [if_neg (nI_nlt h2 (by omega))]
      simp [h1, h2, tf]
    · rw [if_pos (nI_lt (by omega) (by omega))]
      simp [h2, tf]
  · rw [if_pos (nI_lt (by omega) (by omega))]
    simp [h1, tf]
theorem tR_mayGive (hM : qOk M) {c to ho : Nat} (hcb : ∀ h, h < 3 → cb c h = true → h < qH M) (ht : to < 4) (hh : ho < 100) : f_Mo_mayGive N (rz c) (nI to) (nI ho) = some (tf (may M c to ho)) := by
  unfold f_Mo_mayGive may
  by_cases h3 : to = 3
  · subst h3
    have := hl_lt c
    rw [if_pos (show nI 3 = 3 from rfl), t_Mheld, b1_s, if_pos rfl]
    by_cases h : hl c < ho
    · rw [if_neg (nI_ge h (by omega))]
      simp [h, tf]
    · rw [if_pos (nI_le (by omega) (by omega))]
      simp [h, tf]
  · rw [if_neg (show ¬ nI to = 3 from fun q => h3 ((nI_eq (b := 3) (by omega) (by omega)).mp q)), show (0 : Int32) = nI 0 from rfl, show (2 : Int32) = nI 2 from rfl, tR_in (by omega) (by omega) (by omega), b1_s, if_neg h3]
    rw [if_neg (by simp [tf, show to ≤ 2 by omega, nI]), t_MhasCome (by omega), b1_s]
    cases e : cb c to
    · simp [tf, nI]
    · have := hcb to (by omega) e
      simp [tf, this, nI]
theorem tR_worthTo (hM : qOk M) (hW : RW m M) (hN : 4 ≤ N) {c h k : Nat} (hh : h < qH M) (hk : k < 4) : f_Mo_worthTo N (rz c) (nI h) (nI k) m = some (nI (wv M c h k)) := by
  have hH := hM.1
  unfold f_Mo_worthTo
  have := loopF (fun n (a : Nat) j => f_Mo_worthTo_L6 N (rz c) (nI h) (nI k) m (fun (z4_5 : Int32) (z4_6 : Int32) => some z4_5) n (nI a) (nI j)) (fun a j => a + qW M h j * am c j k) 3 (fun a => some (nI a)) (fun n a j hj => by
    show f_Mo_worthTo_L6 N (rz c) (nI h) (nI k) m _ (n + 1) (nI a) (nI j) = _
    rw [f_Mo_worthTo_L6, if_neg (show ¬ (3 : Int32) ≤ nI j from nI_ge (b := 3) hj (by omega)), r_ix3, ck_t (nI_in (by omega) (by omega)), t_Mthings hj hk, b1_s, nI_clamp (by omega), hW.2.2.2.2.1 h j hh hj, pk_mul, nI_add, nI_1]) (fun n a => by
    show f_Mo_worthTo_L6 N (rz c) (nI h) (nI k) m _ (n + 1) (nI a) (nI 3) = _
    rw [f_Mo_worthTo_L6, if_pos (show (3 : Int32) ≤ nI 3 from nI_le (a := 3) (by omega) (by omega))]) 3 N 0 0 (by omega) (by omega)
  refine this.trans ?_
  simp only [fo, Nat.zero_add]
  rfl
/-- how many came -/
def mny (c : Nat) : Nat := fo (fun a h => if cb c h then a + 1 else a) 0 0 3
theorem tR_manyCame {c : Nat} (hN : 4 ≤ N) : f_Mo_manyCame N (rz c) = some (nI (mny c)) := by
  unfold f_Mo_manyCame
  refine loopF (fun n (a : Nat) j => f_Mo_manyCame_L5 N (rz c) (fun (z4_3 : Int32) (z4_4 : Int32) => some z4_3) n (nI a) (nI j)) (fun a h => if cb c h then a + 1 else a) 3 (fun a => some (nI a)) (fun n a j hj => ?_) (fun n a => ?_) 3 N 0 0 (by omega) (by omega)
  · show f_Mo_manyCame_L5 N (rz c) _ (n + 1) (nI a) (nI j) = _
    rw [f_Mo_manyCame_L5, if_neg (show ¬ (3 : Int32) ≤ nI j from nI_ge (b := 3) hj (by omega)), t_MhasCome (by omega), b1_s]
    cases e : cb c j
    · rw [if_pos (by simp [tf]), nI_1, show nI a + 0 = nI a from by rw [show (0 : Int32) = nI 0 from rfl, nI_add]; rfl]
      simp
    · rw [if_neg (by simp [tf]), nI_1, nI_1]
      simp
  · show f_Mo_manyCame_L5 N (rz c) _ (n + 1) (nI a) (nI 3) = _
    rw [f_Mo_manyCame_L5, if_pos (show (3 : Int32) ≤ nI 3 from nI_le (a := 3) (by omega) (by omega))]
theorem t_bitCount {c : Nat} : f_Integer_bitCount N (nI (dg c 12)) = some (nI (mny c)) := by
  have h : ∀ k, k < 8 → f_Integer_bitCount N (nI k) = some (nI (k % 2 + k / 2 % 2 + k / 4 % 2)) := by
    intro k hk
    unfold f_Integer_bitCount
    rcases (by omega : k = 0 ∨ k = 1 ∨ k = 2 ∨ k = 3 ∨ k = 4 ∨ k = 5 ∨ k = 6 ∨ k = 7) with rfl | rfl | rfl | rfl | rfl | rfl | rfl | rfl <;> exact congrArg some (by decide +kernel)
  rw [h _ (dg_lt c 12)]
  unfold mny
  simp only [fo, cb]
  obtain ⟨a, ha⟩ : ∃ a, dg c 12 = a := ⟨_, rfl⟩
  simp only [ha]
  congr 2
  simp only [decide_eq_true_eq, Nat.pow_zero, Nat.pow_one, Nat.div_one, Nat.zero_add, show (2 : Nat) ^ (1 + 1) = 4 from rfl]
  rcases Nat.mod_two_eq_zero_or_one a with h0 | h0 <;> rcases Nat.mod_two_eq_zero_or_one (a / 2) with h1 | h1 <;> rcases Nat.mod_two_eq_zero_or_one (a / 4) with h2 | h2 <;> simp [h0, h1, h2]
end RWILL
