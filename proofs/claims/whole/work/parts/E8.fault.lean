/-! THE TEXT: read whole. -/
def mZero : Mt := ((0, 0, 0, 0, 0), fun _ _ => 0, fun _ => 0, fun _ _ => 0, fun _ _ => 0, fun _ _ => 0)
def FaultTo (x : Nat) (m mr : Mm) (a b : Option (Int32 × Mm)) : Prop := ∃ r m' mr', a = some (r, m') ∧ b = some (r, mr') ∧ FrX x m m' ∧ FP mr mr' ∧ (r = -1 → ∃ M, DR x M m' mr' ∧ qE M)
section FAULT
variable {N : Nat} {S : St} {len x : Nat} {M : Mt}
theorem LineTo_l {pos : Nat} {m mr : Mm} {a b : Option (Int32 × Mm)} (h : LineTo x len pos m mr a b) : LineTo x len pos m mr (b2 a fun r12 m12 => (if r12 = 0 then some (0, m12) else some (1, m12))) b := by
  rcases h with ⟨m', mr', i1, i2, i3, i4, i5⟩ | ⟨pos', M', m', mr', i1, i2, i3, i4, i5, i6, i7⟩
  · rw [i1, b2_s, if_pos rfl]
    exact Or.inl ⟨m', mr', rfl, i2, i3, i4, i5⟩
  · rw [i1, b2_s, if_neg (show ¬ (1 : Int32) = 0 by decide)]
    exact Or.inr ⟨pos', M', m', mr', rfl, i2, i3, i4, i5, i6, i7⟩
theorem LineTo_c {pos : Nat} {m mr : Mm} {a b : Option (Int32 × Mm)} (h : LineTo x len pos m mr a b) : LineTo x len pos m mr (b2 a fun r5 m5 => ck (r5 = 0 ∨ r5 = 1) (some (r5, m5))) b := by
  rcases h with ⟨m', mr', i1, i2, i3, i4, i5⟩ | ⟨pos', M', m', mr', i1, i2, i3, i4, i5, i6, i7⟩
  · rw [i1, b2_s, ck_t (Or.inl rfl)]
    exact Or.inl ⟨m', mr', rfl, i2, i3, i4, i5⟩
  · rw [i1, b2_s, ck_t (Or.inr rfl)]
    exact Or.inr ⟨pos', M', m', mr', rfl, i2, i3, i4, i5, i6, i7⟩
theorem line_sim (hx : x = 3 ∨ x = 10) (hN : 1000 ≤ N) {pos : Nat} {m mr : Mm} (hR : RS len pos m mr) (hD : DR x M m mr) : LineTo x len pos m mr (f_Reader_readPart N S x m) (f_Mo_line N mr) := by
  obtain ⟨n, rfl⟩ : ∃ n, N = n + 10 := ⟨N - 10, by omega⟩
  have w0 := wrd_of hR.2.1 (pak0 n)
  have w1 := wrd_of hR.2.1 (pak1 n)
  have w2 := wrd_of hR.2.1 (pak2 n)
  have w6 := wrd_of hR.2.1 (pak6 n)
  have w7 := wrd_of hR.2.1 (pak7 n)
  unfold f_Reader_readPart f_Mo_line
  rw [w0, w1, w2, w6, w7]
  simp only [b1_s, jn]
  cases c0 : isW m wHeir with
  | true =>
    obtain ⟨t1, t2⟩ := isW_t c0
    have c1 : isW m wLate = false := by unfold isW; rw [t2]; simp [wHeir, wLate]
    rw [if_neg tft, if_pos t1, if_pos (show mJ m 2 6 = 1751476594 from t2), if_neg (show ¬ mJ m 2 6 = 1818326117 by rw [t2]; decide), c1]
    exact LineTo_ck (heir_sim hx hN false hR hD)
  | false =>
    rw [if_pos tf_f]
    cases c1 : isW m wLate with
    | true =>
      obtain ⟨t1, t2⟩ := isW_t c1
      rw [if_neg tft, if_pos t1, if_neg (show ¬ mJ m 2 6 = 1751476594 from isW_f c0 t1), if_pos (show mJ m 2 6 = 1818326117 from t2), if_pos (show mJ m 2 6 = 1818326117 from t2)]
      exact LineTo_ck (heir_sim hx hN true hR hD)
    | false =>
      rw [if_pos tf_f]
      cases c2 : isW m wDay with
      | true =>
        obtain ⟨t1, t2⟩ := isW_t c2
        rw [if_neg tft, if_pos t1, if_neg (show ¬ mJ m 2 6 = 1751476594 from isW_f c0 t1), if_neg (show ¬ mJ m 2 6 = 1818326117 from isW_f c1 t1), if_pos (show mJ m 2 6 = 6578553 from t2)]
        exact LineTo_ck (day_sim hx hN hR hD)
      | false =>
        rw [if_pos tf_f]
        cases c6 : isW m wHold with
        | true =>
          obtain ⟨t1, t2⟩ := isW_t c6
          rw [if_pos t1, if_neg (show ¬ mJ m 2 6 = 1751476594 from isW_f c0 t1), if_neg (show ¬ mJ m 2 6 = 1818326117 from isW_f c1 t1), if_neg (show ¬ mJ m 2 6 = 6578553 from isW_f c2 t1), if_pos (show mJ m 2 6 = 1752132708 from t2)]
          simp only [if_neg tft]
          exact LineTo_c (hold_sim hx hN hR hD)
        | false =>
          simp only [if_pos tf_f]
          cases c7 : isW m wBack with
          | true =>
            obtain ⟨t1, t2⟩ := isW_t c7
            rw [if_neg tft, if_pos t1, if_neg (show ¬ mJ m 2 6 = 1751476594 from isW_f c0 t1), if_neg (show ¬ mJ m 2 6 = 1818326117 from isW_f c1 t1), if_neg (show ¬ mJ m 2 6 = 6578553 from isW_f c2 t1), if_neg (show ¬ mJ m 2 6 = 1752132708 from isW_f c6 t1), if_pos (show mJ m 2 6 = 1650549611 from t2)]
            exact LineTo_l (back_sim hx hN hR hD)
          | false =>
            rw [if_pos tf_f]
            by_cases t1 : mI m 2 3 = 1
            · rw [if_pos t1, if_neg (show ¬ mJ m 2 6 = 1751476594 from isW_f c0 t1), if_neg (show ¬ mJ m 2 6 = 1818326117 from isW_f c1 t1), if_neg (show ¬ mJ m 2 6 = 6578553 from isW_f c2 t1), if_neg (show ¬ mJ m 2 6 = 1752132708 from isW_f c6 t1), if_neg (show ¬ mJ m 2 6 = 1650549611 from isW_f c7 t1)]
              exact Or.inl ⟨m, mr, rfl, rfl, hR.2.2, FrX.refl, FP.refl⟩
            · rw [if_neg t1]
              exact Or.inl ⟨m, mr, rfl, rfl, hR.2.2, FrX.refl, FP.refl⟩
theorem early_d : ∀ H, H < 4 → ∀ L, L < 8 → L < 2 ^ H → ((isl 1 (nI H) - 1) &&& (nI L ^^^ (-1))) = nI (2 ^ H - 1 - L) := by decide +kernel
theorem early_q : ∀ H, H < 4 → ∀ L, L < 8 → L < 2 ^ H → (2 ^ H - 1 - L = 0 ↔ ∀ i, i < 4 → i < H → lt1 L i = true) := by decide +kernel
theorem tW_early {m : Mm} (hW : CW m x M) (ok : qOk M) : f_Will_early N S x m = some (nI (2 ^ qH M - 1 - qL M)) := by
  have hH := ok.1
  unfold f_Will_early
  rw [hW.1, hW.2.2.2.2.1, early_d (qH M) (by omega) (qL M) (qL8 ok) ok.2.2.2.2.1]
theorem qE_iff (ok : qOk M) : (2 ^ qH M - 1 - qL M = 0) ↔ ¬ qE M := by
  have hH := ok.1
  rw [early_q (qH M) (by omega) (qL M) (qL8 ok) ok.2.2.2.2.1]
  constructor
  · rintro h ⟨i, i1, i2⟩
    rw [h i (by omega) i1] at i2
    cases i2
  · intro h i _ hi
    cases e : lt1 (qL M) i with
    | true => rfl
    | false => exact absurd ⟨i, hi, e⟩ h
/-- some heir is there from the first -/
theorem f50 {mr : Mm} (h6 : mI mr 0 6 = nI (qH M)) (ok : qOk M) (h3 : ∀ i, i < qH M → mX mr 3 i = tf (lt1 (qL M) i)) (K : Int32 → Option (Int32 × Mm)) : ∀ r j fuel, j + r = qH M → r < fuel → (∀ i, i < j → lt1 (qL M) i = true) → (qE M → f_Mo_fault_L50 N mr K fuel (nI j) = some (-1, mr)) ∧ (¬ qE M → f_Mo_fault_L50 N mr K fuel (nI j) = K (nI (qH M))) := by
  have hH := ok.1
  intro r
  induction r with
  | zero =>
    intro j fuel hr hf hl
    obtain ⟨f, rfl⟩ : ∃ q, fuel = q + 1 := ⟨fuel - 1, by omega⟩
    have e : j = qH M := by omega
    subst e
    rw [f_Mo_fault_L50, h6, if_pos (nI_le (Nat.le_refl _) (by omega))]
    refine ⟨fun ⟨i, i1, i2⟩ => ?_, fun _ => rfl⟩
    rw [hl i i1] at i2
    cases i2
  | succ r ih =>
    intro j fuel hr hf hl
    obtain ⟨f, rfl⟩ : ∃ q, fuel = q + 1 := ⟨fuel - 1, by omega⟩
    have hix : ix (nI j) 3 := nI_in (by omega) (by omega)
    rw [f_Mo_fault_L50, h6, if_neg (nI_ge (by omega) (by omega))]
    simp only [ck_t hix, nI_clamp (show j < 2 ^ 31 by omega)]
    rw [h3 j (by omega), nI_1]
    cases e : lt1 (qL M) j with
    | false =>
      rw [if_pos tf_f]
      exact ⟨fun _ => rfl, fun h => absurd ⟨j, by omega, e⟩ h⟩
    | true =>
      rw [if_neg tft]
      exact ih (j + 1) f (by omega) (by omega) (fun i hi => by
        by_cases q : i = j
        · rw [q]; exact e
        · exact hl i (by omega))
theorem fault_loop (hx : x = 3 ∨ x = 10) (hN : 1000 ≤ N) {m0 mr0 : Mm} {K : Int32 → Mm → Option (Int32 × Mm)} (hl4 : len ≤ 400) : ∀ (r pos j fc fr : Nat) (M : Mt) (m mr : Mm), len - pos ≤ r → r < fc → r < fr → j ≤ pos → RS len pos m mr → DR x M m mr → FrX x m0 m → FP mr0 mr → FaultTo x m0 mr0 (f_Reader_read_L28 N S x K fc (nI j) m) (f_Mo_fault_L29 N (fun (m5 : Mm) => f_Mo_fault_L50 N m5 (fun (z9_1 : Int32) => some ((mI m5 0 4), m5)) N 0) fr mr) := by
  intro r
  induction r with
  | zero =>
    intro pos j fc fr M m mr hr hfc hfr hj hR hD f1 f2
    obtain ⟨fc, rfl⟩ : ∃ q, fc = q + 1 := ⟨fc - 1, by omega⟩
    obtain ⟨fr, rfl⟩ : ∃ q, fr = q + 1 := ⟨fr - 1, by omega⟩
    have hp := hR.1.2.2.2.2.1
    have ok := hD.1.2.1
    rw [f_Reader_read_L28, hR.1.1, if_neg (nI_nlt (by omega) (by omega)), f_Mo_fault_L29]
    by_cases q : mI m 2 3 = 0
    · have q' := (over_of hR.2.1).mpr q
      rw [if_pos q, if_pos q', tW_early hD.1.1 ok, b1_s]
      obtain ⟨g1, g2⟩ := f50 (N := N) hD.1.2.2.1 ok hD.2.2.1 (fun (z9_1 : Int32) => some ((mI mr 0 4), mr)) (qH M) 0 N (by omega) (by have := ok.1; omega) (fun i hi => by omega)
      have hb : 2 ^ qH M - 1 - qL M < 2 ^ 31 := by
        have : 2 ^ qH M ≤ 2 ^ 3 := Nat.pow_le_pow_right (by decide) ok.1
        have : (2 : Nat) ^ 3 = 8 := rfl
        omega
      by_cases e : qE M
      · rw [if_neg (show ¬ nI (2 ^ qH M - 1 - qL M) = 0 from fun w => (qE_iff ok).mp ((nI_eq (b := 0) hb (by omega)).mp w) e)]
        exact ⟨-1, m, mr, rfl, g1 e, f1, f2, fun _ => ⟨M, hD, e⟩⟩
      · rw [if_pos (by rw [(qE_iff ok).mpr e]; rfl)]
        refine ⟨mI m 2 4, m, mr, rfl, ?_, f1, f2, fun w => absurd w hR.2.2.2⟩
        rw [hR.2.2.1]
        exact g2 e
    · rw [if_neg q, if_neg (fun w => q ((over_of hR.2.1).mp w))]
      rcases line_sim (S := S) hx hN hR hD with ⟨m', mr', i1, i2, i3, i4, i5⟩ | ⟨pos', M', m', mr', i1, i2, i3, i4, i5, i6, i7⟩
      · rw [i1, i2, b2_s, b2_s, if_pos rfl, if_pos rfl, i3.1]
        exact ⟨_, m', mr', rfl, rfl, f1.trans i4, f2.trans i5, fun w => absurd (i3.1.trans w) i3.2⟩
      · have := i3.1.2.2.2.2.1
        omega
  | succ r ih =>
    intro pos j fc fr M m mr hr hfc hfr hj hR hD f1 f2
    obtain ⟨fc, rfl⟩ : ∃ q, fc = q + 1 := ⟨fc - 1, by omega⟩
    obtain ⟨fr, rfl⟩ : ∃ q, fr = q + 1 := ⟨fr - 1, by omega⟩
    have hp := hR.1.2.2.2.2.1
    have ok := hD.1.2.1
    rw [f_Reader_read_L28, hR.1.1, if_neg (nI_nlt (by omega) (by omega)), f_Mo_fault_L29]
    by_cases q : mI m 2 3 = 0
    · have q' := (over_of hR.2.1).mpr q
      rw [if_pos q, if_pos q', tW_early hD.1.1 ok, b1_s]
      obtain ⟨g1, g2⟩ := f50 (N := N) hD.1.2.2.1 ok hD.2.2.1 (fun (z9_1 : Int32) => some ((mI mr 0 4), mr)) (qH M) 0 N (by omega) (by have := ok.1; omega) (fun i hi => by omega)
      have hb : 2 ^ qH M - 1 - qL M < 2 ^ 31 := by
        have : 2 ^ qH M ≤ 2 ^ 3 := Nat.pow_le_pow_right (by decide) ok.1
        have : (2 : Nat) ^ 3 = 8 := rfl
        omega
      by_cases e : qE M
      · rw [if_neg (show ¬ nI (2 ^ qH M - 1 - qL M) = 0 from fun w => (qE_iff ok).mp ((nI_eq (b := 0) hb (by omega)).mp w) e)]
        exact ⟨-1, m, mr, rfl, g1 e, f1, f2, fun _ => ⟨M, hD, e⟩⟩
      · rw [if_pos (by rw [(qE_iff ok).mpr e]; rfl)]
        refine ⟨mI m 2 4, m, mr, rfl, ?_, f1, f2, fun w => absurd w hR.2.2.2⟩
        rw [hR.2.2.1]
        exact g2 e
    · rw [if_neg q, if_neg (fun w => q ((over_of hR.2.1).mp w))]
      rcases line_sim (S := S) hx hN hR hD with ⟨m', mr', i1, i2, i3, i4, i5⟩ | ⟨pos', M', m', mr', i1, i2, i3, i4, i5, i6, i7⟩
      · rw [i1, i2, b2_s, b2_s, if_pos rfl, if_pos rfl, i3.1]
        exact ⟨_, m', mr', rfl, rfl, f1.trans i4, f2.trans i5, fun w => absurd (i3.1.trans w) i3.2⟩
      · rw [i1, i2, b2_s, b2_s, if_neg (show ¬ (1 : Int32) = 0 by decide), if_neg (show ¬ (1 : Int32) = 0 by decide), nI_1]
        exact ih pos' (j + 1) fc fr M' m' mr' (by omega) (by omega) (by omega) (by omega) i3 i5 (f1.trans i6) (f2.trans i7)
theorem qOk_0 : qOk mZero := ⟨by decide, by decide, by decide, by decide, by decide, fun h s hh => absurd hh (Nat.not_lt_zero _), fun d hd => absurd hd (Nat.not_lt_zero _), fun d a hd => absurd hd (Nat.not_lt_zero _)⟩
/-- both read the text alike -/
theorem fault_sim (hx : x = 3 ∨ x = 10) (hN : 1000 ≤ N) {m mr : Mm} (hl4 : len ≤ 400) (h1 : mI mr 0 1 = nI len) (hX : ∀ i, i < 400 → mX m 1 i = mX mr 1 i) : FaultTo x m mr (f_Reader_read N S (nI len) x m) (f_Mo_fault N mr) := by
  unfold f_Reader_read f_Mo_fault f_Will_clear
  have e400 : (if (Int32.ofNat 400) < nI len then (Int32.ofNat 400) else nI len) = nI len := if_neg (nI_nlt (b := len) (a := 400) (by omega) (by omega))
  rw [e400, b3_s]
  generalize hm1 : vI (vI (vI (vI (vI (vI (vI (vI (vI m 2 1 (nI len)) 2 2 0) x 0 0) x 1 0) x 2 0) x 3 0) x 4 0) x 5 0) x 6 0 = m1
  generalize hr1 : vI (vI (vI (vI (vI mr 0 6 0) 0 10 0) 0 13 (-1)) 0 14 (-1)) 0 2 0 = mr1
  have hx2 : x ≠ 2 := by omega
  have a21 : mI m1 2 1 = nI len := by rw [← hm1, mI_n (by omega), mI_n (by omega), mI_n (by omega), mI_n (by omega), mI_n (by omega), mI_n (by omega), mI_n (by omega), mI_n (by omega), mI_s]
  have a22 : mI m1 2 2 = nI 0 := by rw [← hm1, mI_n (by omega), mI_n (by omega), mI_n (by omega), mI_n (by omega), mI_n (by omega), mI_n (by omega), mI_n (by omega), mI_s]; rfl
  have ax : ∀ k, k ≤ 6 → mI m1 x k = 0 := fun k hk => by
    rw [← hm1]
    rcases (by omega : k = 0 ∨ k = 1 ∨ k = 2 ∨ k = 3 ∨ k = 4 ∨ k = 5 ∨ k = 6) with rfl | rfl | rfl | rfl | rfl | rfl | rfl
    · rw [mI_n (by omega), mI_n (by omega), mI_n (by omega), mI_n (by omega), mI_n (by omega), mI_n (by omega), mI_s]
    · rw [mI_n (by omega), mI_n (by omega), mI_n (by omega), mI_n (by omega), mI_n (by omega), mI_s]
    · rw [mI_n (by omega), mI_n (by omega), mI_n (by omega), mI_n (by omega), mI_s]
    · rw [mI_n (by omega), mI_n (by omega), mI_n (by omega), mI_s]
    · rw [mI_n (by omega), mI_n (by omega), mI_s]
    · rw [mI_n (by omega), mI_s]
    · rw [mI_s]
  have b1' : mI mr1 0 1 = nI len := by rw [← hr1]; exact h1
  have b2' : mI mr1 0 2 = nI 0 := by rw [← hr1]; rfl
  have b6 : mI mr1 0 6 = nI 0 := by rw [← hr1]; rfl
  have b10 : mI mr1 0 10 = nI 0 := by rw [← hr1]; rfl
  have b13 : mI mr1 0 13 = -1 := by rw [← hr1]; rfl
  have b14 : mI mr1 0 14 = -1 := by rw [← hr1]; rfl
  have eX : m1.2.2 = m.2.2 := by rw [← hm1]; rfl
  have rX : mr1.2.2 = mr.2.2 := by rw [← hr1]; rfl
  have f1 : FrX x m m1 := by
    rw [← hm1]
    exact ((((((((FC_i (Or.inl rfl)).trans (FC_i (Or.inl rfl))).trans (FC_i (Or.inr rfl))).trans (FC_i (Or.inr rfl))).trans (FC_i (Or.inr rfl))).trans (FC_i (Or.inr rfl))).trans (FC_i (Or.inr rfl))).trans (FC_i (Or.inr rfl))).trans (FC_i (Or.inr rfl))
  have f2 : FP mr mr1 := by
    rw [← hr1]
    exact ((((FP_i (by omega)).trans (FP_i (by omega))).trans (FP_i (by omega))).trans (FP_i (by omega))).trans (FP_i (by omega))
  have hT : TP len 0 m1 mr1 := ⟨a21, a22, b1', b2', by omega, hl4, fun i hi => by
    have e1 : mX m1 1 i = mX m 1 i := by unfold mX; rw [eX]
    have e2 : mX mr1 1 i = mX mr 1 i := by unfold mX; rw [rX]
    rw [e1, e2]
    exact hX i hi⟩
  have hD : DR x mZero m1 mr1 := ⟨⟨⟨ax 0 (by omega), ax 1 (by omega), ax 2 (by omega), ax 3 (by omega), ax 6 (by omega), fun h s hh => absurd hh (Nat.not_lt_zero _), fun d hd => absurd hd (Nat.not_lt_zero _), fun d a hd => absurd hd (Nat.not_lt_zero _)⟩, qOk_0, b6, b10⟩, fun i hi => absurd hi (Nat.not_lt_zero _), fun i hi => absurd hi (Nat.not_lt_zero _), fun h s hh => absurd hh (Nat.not_lt_zero _), fun d hd => absurd hd (Nat.not_lt_zero _), fun d a hd => absurd hd (Nat.not_lt_zero _), Or.inl ⟨ax 4 (by omega), b13, rfl⟩, Or.inl ⟨ax 5 (by omega), b14, rfl⟩⟩
  obtain ⟨p5, m5, mr5, v1, v2, v3, v4, v5, v6, v7⟩ := t_step (N := N) (S := S) hN hT
  rw [v1, v2, b3_s, b3_s]
  exact fault_loop hx hN hl4 len p5 0 N N mZero m5 mr5 (by omega) (by omega) (by omega) (by omega) v3 (DR_s hx v6 v7 hD) (f1.trans v6.fc) (f2.trans v7.fp)
end FAULT
