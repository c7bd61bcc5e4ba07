/-! THE TEXT: what was read so far, in both. -/
/-- the draft x of the one and what the other has read -/
def DR (x : Nat) (M : Mt) (m mr : Mm) : Prop := (CW m x M ∧ qOk M ∧ mI mr 0 6 = nI (qH M) ∧ mI mr 0 10 = nI (qD M)) ∧ (∀ i, i < qH M → mYy m (x + 1) i = mYy mr 2 i) ∧ (∀ i, i < qH M → mX mr 3 i = tf (lt1 (qL M) i)) ∧ (∀ h s, h < qH M → s < 3 → mX mr 4 (3 * h + s) = nI (qW M h s)) ∧ (∀ d, d < qD M → mX mr 5 d = nI (qA M d)) ∧ (∀ d a, d < qD M → a < qA M d → mX mr 6 (3 * (3 * d + a)) = nI (qC M d a) ∧ mX mr 6 (3 * (3 * d + a) + 1) = nI (qK M d a) ∧ mX mr 6 (3 * (3 * d + a) + 2) = qT M d a) ∧ ((mI m x 4 = 0 ∧ mI mr 0 13 = -1 ∧ qO M = 0) ∨ (mI m x 4 = 1 ∧ mI mr 0 13 = nI (qO M))) ∧ ((mI m x 5 = 0 ∧ mI mr 0 14 = -1 ∧ qB M = 0) ∨ (mI m x 5 = 1 ∧ mI mr 0 14 = nI (qB M)))
def FrX (x : Nat) (m m' : Mm) : Prop := (∀ a k, a ≠ 2 → a ≠ x → m'.1 a k = m.1 a k) ∧ (∀ a k, a ≠ 2 → m'.2.1 a k = m.2.1 a k) ∧ (∀ a, ¬ (x + 2 ≤ a ∧ a ≤ x + 6) → m'.2.2.1 a = m.2.2.1 a) ∧ ∀ a, a ≠ x + 1 → m'.2.2.2 a = m.2.2.2 a
def FP (m m' : Mm) : Prop := (∀ a k, ¬ (a = 0 ∧ (k = 2 ∨ k = 3 ∨ k = 4 ∨ k = 6 ∨ k = 10 ∨ k = 13 ∨ k = 14 ∨ k = 30)) → m'.1 a k = m.1 a k) ∧ (∀ a k, ¬ (a = 0 ∧ k = 5) → m'.2.1 a k = m.2.1 a k) ∧ (∀ a, ¬ (3 ≤ a ∧ a ≤ 6) → m'.2.2.1 a = m.2.2.1 a) ∧ ∀ a, a ≠ 2 → m'.2.2.2 a = m.2.2.2 a
/-- a part of the text was read, or refused at the same place -/
def LineTo (x len pos : Nat) (m mr : Mm) (a b : Option (Int32 × Mm)) : Prop := (∃ m' mr', a = some (0, m') ∧ b = some (0, mr') ∧ Plc m' mr' ∧ FrX x m m' ∧ FP mr mr') ∨ ∃ pos' M' m' mr', a = some (1, m') ∧ b = some (1, mr') ∧ RS len pos' m' mr' ∧ pos < pos' ∧ DR x M' m' mr' ∧ FrX x m m' ∧ FP mr mr'
section DRAFT
variable {N : Nat} {S : St} {len x : Nat} {M : Mt} {m m' mr mr' : Mm}
theorem FrX.refl : FrX x m m := ⟨fun _ _ _ _ => rfl, fun _ _ _ => rfl, fun _ _ => rfl, fun _ _ => rfl⟩
theorem FP.refl : FP m m := ⟨fun _ _ _ => rfl, fun _ _ _ => rfl, fun _ _ => rfl, fun _ _ => rfl⟩
theorem FrX.trans {m1 m2 : Mm} (h : FrX x m m1) (h' : FrX x m1 m2) : FrX x m m2 := ⟨fun a k q q' => (h'.1 a k q q').trans (h.1 a k q q'), fun a k q => (h'.2.1 a k q).trans (h.2.1 a k q), fun a q => (h'.2.2.1 a q).trans (h.2.2.1 a q), fun a q => (h'.2.2.2 a q).trans (h.2.2.2 a q)⟩
theorem FP.trans {m1 m2 : Mm} (h : FP m m1) (h' : FP m1 m2) : FP m m2 := ⟨fun a k q => (h'.1 a k q).trans (h.1 a k q), fun a k q => (h'.2.1 a k q).trans (h.2.1 a k q), fun a q => (h'.2.2.1 a q).trans (h.2.2.1 a q), fun a q => (h'.2.2.2 a q).trans (h.2.2.2 a q)⟩
theorem FS.fc (h : FS m m') : FrX x m m' := ⟨fun a k q _ => h.1 a k (by omega), fun a k q => h.2.1 a k (by omega), fun a _ => by rw [h.2.2], fun a _ => by rw [h.2.2]⟩
theorem FQ.fp (h : FQ m m') : FP m m' := ⟨fun a k q => h.1 a k (by omega), fun a k q => h.2.1 a k q, fun a _ => by rw [h.2.2], fun a _ => by rw [h.2.2]⟩
theorem LineTo.back {pos pos1 : Nat} {m1 mr1 : Mm} {a b : Option (Int32 × Mm)} (hp : pos ≤ pos1) (h1 : FrX x m m1) (h2 : FP mr mr1) (h : LineTo x len pos1 m1 mr1 a b) : LineTo x len pos m mr a b := by
  rcases h with ⟨m', mr', i1, i2, i3, i4, i5⟩ | ⟨pos', M', m', mr', i1, i2, i3, i4, i5, i6, i7⟩
  · exact Or.inl ⟨m', mr', i1, i2, i3, h1.trans i4, h2.trans i5⟩
  · exact Or.inr ⟨pos', M', m', mr', i1, i2, i3, by omega, i5, h1.trans i6, h2.trans i7⟩
theorem DR_s (hx : x = 3 ∨ x = 10) (hS : FS m m') (hQ : FQ mr mr') (h : DR x M m mr) : DR x M m' mr' := by
  have e1 : ∀ k, mI m' x k = mI m x k := fun k => hS.1 x k (by omega)
  have eX : ∀ a i, mX m' a i = mX m a i := fun a i => by unfold mX; rw [hS.2.2]
  have eY : ∀ a i, mYy m' a i = mYy m a i := fun a i => by unfold mYy; rw [hS.2.2]
  have q1 : ∀ k, ¬ (k = 2 ∨ k = 3 ∨ k = 4) → mI mr' 0 k = mI mr 0 k := fun k hk => hQ.1 0 k (by omega)
  have qX : ∀ a i, mX mr' a i = mX mr a i := fun a i => by unfold mX; rw [hQ.2.2]
  have qY : ∀ a i, mYy mr' a i = mYy mr a i := fun a i => by unfold mYy; rw [hQ.2.2]
  unfold DR CW at *
  simp only [e1, eX, eY, q1 6 (by omega), q1 10 (by omega), q1 13 (by omega), q1 14 (by omega), qX, qY]
  exact h
/-- a name, or none, in both -/
theorem named_of (hN : 1000 ≤ N) (h : DR x M m mr) (w : Int64) : ∃ o : Option Nat, f_Will_heirNamed N S x w m = some (zOpt o) ∧ f_Mo_named N w mr = some (zOpt o) ∧ ∀ i, o = some i → i < qH M := by
  have hH := h.1.2.1.1
  unfold f_Will_heirNamed f_Mo_named
  have key : ∀ r j fc fr, j + r = qH M → r < fc → r < fr → ∃ o : Option Nat, f_Will_heirNamed_L2 N S x w m (fun (_ : Int32) => some ((-1))) fc (nI j) = some (zOpt o) ∧ f_Mo_named_L2 N w mr (fun (_ : Int32) => some ((-1))) fr (nI j) = some (zOpt o) ∧ ∀ i, o = some i → i < qH M := by
    intro r
    induction r with
    | zero =>
      intro j fc fr hr hfc hfr
      obtain ⟨fc, rfl⟩ : ∃ q, fc = q + 1 := ⟨fc - 1, by omega⟩
      obtain ⟨fr, rfl⟩ : ∃ q, fr = q + 1 := ⟨fr - 1, by omega⟩
      refine ⟨none, ?_, ?_, fun i hi => by cases hi⟩
      · rw [f_Will_heirNamed_L2, h.1.1.1, if_pos (nI_le (by omega) (by omega))]; rfl
      · rw [f_Mo_named_L2, h.1.2.2.1, if_pos (nI_le (by omega) (by omega))]; rfl
    | succ r ih =>
      intro j fc fr hr hfc hfr
      obtain ⟨fc, rfl⟩ : ∃ q, fc = q + 1 := ⟨fc - 1, by omega⟩
      obtain ⟨fr, rfl⟩ : ∃ q, fr = q + 1 := ⟨fr - 1, by omega⟩
      have hix : ix (nI j) 3 := nI_in (by omega) (by omega)
      have e := h.2.1 j (by omega)
      rw [f_Will_heirNamed_L2, h.1.1.1, if_neg (nI_ge (by omega) (by omega)), f_Mo_named_L2, h.1.2.2.1, if_neg (nI_ge (by omega) (by omega))]
      simp only [ck_t hix, nI_clamp (show j < 2 ^ 31 by omega)]
      rw [e, nI_1]
      by_cases q : mYy mr 2 j = w
      · rw [if_pos q, if_pos q]
        exact ⟨some j, rfl, rfl, fun i hi => by have : j = i := Option.some.inj hi; omega⟩
      · rw [if_neg q, if_neg q]
        exact ih (j + 1) fc fr (by omega) (by omega) (by omega)
  exact key (qH M) 0 N N (by omega) (by omega) (by omega)
theorem FC_x (hx : x = 3 ∨ x = 10) {a k : Nat} {v : Int32} (ha : x + 2 ≤ a ∧ a ≤ x + 6) : FrX x m (vX m a k v) := ⟨fun _ _ _ _ => rfl, fun _ _ _ => rfl, fun b hb => vX_o (by omega), fun _ _ => rfl⟩
theorem FC_y {k : Nat} {v : Int64} : FrX x m (vY m (x + 1) k v) := ⟨fun _ _ _ _ => rfl, fun _ _ _ => rfl, fun _ _ => rfl, fun b hb => vY_o hb⟩
theorem FC_i {a k : Nat} {v : Int32} (ha : a = 2 ∨ a = x) : FrX x m (vI m a k v) := ⟨fun b j q q' => u2_a _ _ _ _ (by omega), fun _ _ _ => rfl, fun _ _ => rfl, fun _ _ => rfl⟩
theorem FP_x {a k : Nat} {v : Int32} (ha : 3 ≤ a ∧ a ≤ 6) : FP m (vX m a k v) := ⟨fun _ _ _ => rfl, fun _ _ _ => rfl, fun b hb => vX_o (by omega), fun _ _ => rfl⟩
theorem FP_y {k : Nat} {v : Int64} : FP m (vY m 2 k v) := ⟨fun _ _ _ => rfl, fun _ _ _ => rfl, fun _ _ => rfl, fun b hb => vY_o hb⟩
theorem FP_i {k : Nat} {v : Int32} (h : k = 2 ∨ k = 3 ∨ k = 4 ∨ k = 6 ∨ k = 10 ∨ k = 13 ∨ k = 14 ∨ k = 30) : FP m (vI m 0 k v) := ⟨fun a j q => by
  show u2 m.1 0 k v a j = _
  unfold u2
  rw [if_neg (fun w => q ⟨w.1, by omega⟩)], fun _ _ _ => rfl, fun _ _ => rfl, fun _ _ => rfl⟩
theorem mX_s {a k : Nat} {v : Int32} : mX (vX m a k v) a k = v := u2_s _ _ _ _
theorem mX_n {a k b j : Nat} {v : Int32} (h : ¬ (b = a ∧ j = k)) : mX (vX m a k v) b j = mX m b j := by
  show u2 m.2.2.1 a k v b j = _
  unfold u2
  rw [if_neg h]
  rfl
theorem mY_s {a k : Nat} {v : Int64} : mYy (vY m a k v) a k = v := u2_s _ _ _ _
theorem mY_n {a k b j : Nat} {v : Int64} (h : ¬ (b = a ∧ j = k)) : mYy (vY m a k v) b j = mYy m b j := by
  show u2 m.2.2.2 a k v b j = _
  unfold u2
  rw [if_neg h]
  rfl
/-- what stands behind what was read doesn't matter -/
theorem DR_beh (hx : x = 3 ∨ x = 10) (h1 : ∀ k, mI m' x k = mI m x k) (hy : ∀ i, i < qH M → mYy m' (x + 1) i = mYy m (x + 1) i) (h2 : ∀ i, i < 3 * qH M → mX m' (x + 2) i = mX m (x + 2) i) (h3 : ∀ i, i < qD M → mX m' (x + 3) i = mX m (x + 3) i) (h4 : ∀ a i, a = x + 4 ∨ a = x + 5 ∨ a = x + 6 → i < 3 * qD M → mX m' a i = mX m a i) (q1 : ∀ k, k = 6 ∨ k = 10 ∨ k = 13 ∨ k = 14 → mI mr' 0 k = mI mr 0 k) (qy : ∀ i, i < qH M → mYy mr' 2 i = mYy mr 2 i) (q3 : ∀ i, i < qH M → mX mr' 3 i = mX mr 3 i) (q4 : ∀ i, i < 3 * qH M → mX mr' 4 i = mX mr 4 i) (q5 : ∀ i, i < qD M → mX mr' 5 i = mX mr 5 i) (q6 : ∀ i, i < 9 * qD M → mX mr' 6 i = mX mr 6 i) (h : DR x M m mr) : DR x M m' mr' := by
  obtain ⟨⟨⟨c1, c2, c3, c4, c5, c6, c7, c8⟩, ok, r1, r2⟩, a2, a3, a4, a5, a6, a7, a8⟩ := h
  have hA := ok.2.2.2.2.2.2.1
  refine ⟨⟨⟨(h1 0).trans c1, (h1 1).trans c2, (h1 2).trans c3, (h1 3).trans c4, (h1 6).trans c5, fun p s hp hs => ?_, fun d hd => (h3 d hd).trans (c7 d hd), fun d a hd ha => ?_⟩, ok, (q1 6 (by omega)).trans r1, (q1 10 (by omega)).trans r2⟩, fun i hi => ?_, fun i hi => (q3 i hi).trans (a3 i hi), fun p s hp hs => (q4 _ (by omega)).trans (a4 p s hp hs), fun d hd => (q5 d hd).trans (a5 d hd), fun d a hd ha => ?_, ?_, ?_⟩
  · exact (h2 _ (by omega)).trans (c6 p s hp hs)
  · have := hA d hd
    obtain ⟨k1, k2, k3⟩ := c8 d a hd ha
    exact ⟨(h4 _ _ (by omega) (by omega)).trans k1, (h4 _ _ (by omega) (by omega)).trans k2, (h4 _ _ (by omega) (by omega)).trans k3⟩
  · rw [hy i hi, qy i hi]; exact a2 i hi
  · have := hA d hd
    obtain ⟨k1, k2, k3⟩ := a6 d a hd ha
    exact ⟨(q6 _ (by omega)).trans k1, (q6 _ (by omega)).trans k2, (q6 _ (by omega)).trans k3⟩
  · rw [h1 4, q1 13 (by omega)]; exact a7
  · rw [h1 5, q1 14 (by omega)]; exact a8
end DRAFT
