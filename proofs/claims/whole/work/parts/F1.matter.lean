/-! matter: what it lays down. -/
theorem c0_g : ∀ e, e < 8 → dg (e * 8 ^ 12) 12 = e ∧ tt (e * 8 ^ 12) = 0 ∧ hl (e * 8 ^ 12) = 0 ∧ e * 8 ^ 12 < 8 ^ 13 := by decide +kernel
theorem c0_z : ∀ e, e < 8 → ∀ i, i < 12 → dg (e * 8 ^ 12) i = 0 := by decide +kernel
theorem c0_b : ∀ H, H < 4 → ∀ L, L < 8 → L < 2 ^ H → ∀ h, h < 3 → cb ((2 ^ H - 1 - L) * 8 ^ 12) h = (decide (h < H) && !(lt1 L h)) := by decide +kernel
theorem c0_f : ∀ H, H < 4 → ∀ L, L < 8 → L < 2 ^ H → fo (fun c i => if lt1 L i then c else cme c i) 0 0 H = (2 ^ H - 1 - L) * 8 ^ 12 := by decide +kernel
def cfi (M : Mt) : Nat := (2 ^ qH M - 1 - qL M) * 8 ^ 12
section MATTER
variable {N : Nat} {S : St} {M : Mt}
theorem e8 (hM : qOk M) : 2 ^ qH M - 1 - qL M < 8 := by
  have : 2 ^ qH M ≤ 2 ^ 3 := Nat.pow_le_pow_right (by decide) hM.1
  have : (2 : Nat) ^ 3 = 8 := rfl
  omega
theorem NW_0 (hM : qOk M) : NW M (cfi M) 0 none := by
  have hH := hM.1
  have he := e8 hM
  obtain ⟨g1, g2, g3, g4⟩ := c0_g _ he
  have hcb := c0_b (qH M) (by omega) (qL M) (qL8 hM) hM.2.2.2.2.1
  refine ⟨⟨g4, fun h hh hb => ?_, fun h hh hl => ?_, fun s h hs hh hp => ?_, ?_⟩, Nat.zero_le _, ?_, ?_, fun s hs => by cases hs⟩
  · have := hcb h hh
    unfold cfi at hb
    rw [this, Bool.and_eq_true, decide_eq_true_eq] at hb
    exact hb.1
  · have := hcb h (by omega)
    unfold cfi
    rw [this, hl, decide_eq_true hh]
    rfl
  · have : dg (cfi M) (4 * s + h) = 0 := c0_z _ he _ (by omega)
    unfold am at hp
    omega
  · show tt (cfi M) ≤ 6
    have : tt (cfi M) = 0 := g2
    omega
  · show hl (cfi M) ≤ qO M
    have : hl (cfi M) = 0 := g3
    omega
  · show tt (cfi M) ≤ 0
    have : tt (cfi M) = 0 := g2
    omega
theorem t_first {m : Mm} (hM : qOk M) (hW : CW m 10 M) : f_Will_firstState N S 10 m = some (cs (cfi M) 0) := by
  have he := e8 hM
  unfold f_Will_firstState
  rw [tW_early hW hM, b1_s, nI_l (by omega), show (36 : Int32) = nI 36 from rfl, lsl_n _ (by omega)]
  unfold cs cfi
  rw [Nat.zero_mul, Nat.add_zero]
/-- how the book starts anew -/
def FB (m m' : Mm) : Prop := (∀ a k, ¬ (a = 18 ∧ (k = 10 ∨ k = 11)) → ¬ (34 ≤ a ∧ a ≤ 95 ∧ k = 1) → m'.1 a k = m.1 a k) ∧ m'.2.1 = m.2.1 ∧ (∀ a, ¬ (25 ≤ a ∧ a ≤ 28) → m'.2.2.1 a = m.2.2.1 a) ∧ m'.2.2.2 = m.2.2.2
theorem FB.trans {m m1 m2 : Mm} (h : FB m m1) (h' : FB m1 m2) : FB m m2 := ⟨fun a k q q' => (h'.1 a k q q').trans (h.1 a k q q'), h'.2.1.trans h.2.1, fun a q => (h'.2.2.1 a q).trans (h.2.2.1 a q), h'.2.2.2.trans h.2.2.2⟩
theorem FLy.fb {m m' : Mm} (h : FLy m m') : FB m m' := ⟨fun a k q _ => h.1 a k q, h.2.1, h.2.2.1, h.2.2.2⟩
theorem FB_i {m : Mm} {a : Nat} {v : Int32} (h : 34 ≤ a ∧ a ≤ 95) : FB m (vI m a 1 v) := ⟨fun b j _ q' => mI_n (m := m) (fun w => q' ⟨by omega, by omega, w.2⟩), rfl, fun _ _ => rfl, rfl⟩
theorem FB.refl {m : Mm} : FB m m := ⟨fun _ _ _ _ => rfl, rfl, fun _ _ => rfl, rfl⟩
theorem t_anew (hM : qOk M) (hN : 1000 ≤ N) {m : Mm} (hW : CW m 10 M) (hK : RKm m) : ∃ m', f_Book_startAnew N S m = some m' ∧ RLm m' M ∧ FB m m' ∧ (∀ i, i < 9 → mI m' (34 + 3 * i) 1 = 0) ∧ ∀ i, i < 12 → mI m' (62 + 3 * i) 1 = 0 := by
  obtain ⟨m1, k1, k2, k3⟩ := t_layOut (N := N) (S := S) hM hN hW hK
  unfold f_Book_startAnew
  rw [k1, b3_s]
  have L42 : ∀ m2 : Mm, ∃ m', f_Book_startAnew_L42 N S (fun (z9_1 : Int32) (m9 : Mm) => some m9) N 0 m2 = some m' ∧ FB m2 m' ∧ (∀ a k, a < 60 → m'.1 a k = m2.1 a k) ∧ m'.2 = m2.2 ∧ ∀ i, i < 12 → mI m' (62 + 3 * i) 1 = 0 := fun m2 => by
    obtain ⟨m', ⟨i1, i2, i3, i4⟩, e⟩ := loopE (fun f (y : Mm) j => f_Book_startAnew_L42 N S (fun (z9_1 : Int32) (m9 : Mm) => some m9) f (nI j) y) (fun y j => FB m2 y ∧ (∀ a k, a < 60 → y.1 a k = m2.1 a k) ∧ y.2 = m2.2 ∧ ∀ i, i < j → mI y (62 + 3 * i) 1 = 0) 12 (fun y => some y) (fun f y j hj hI => by
      show ∃ y', _ ∧ f_Book_startAnew_L42 N S _ (f + 1) (nI j) y = _
      obtain ⟨i1, i2, i3, i4⟩ := hI
      have hix : ix (nI j) 12 := nI_in hj (by omega)
      refine ⟨vI y (61 + 3 * j + 1) 1 0, ⟨i1.trans (FB_i (by omega)), fun a k ha => (mI_n (m := y) (by omega)).trans (i2 a k ha), i3, fun i hi => ?_⟩, ?_⟩
      · by_cases q : i = j
        · rw [q, show 62 + 3 * j = 61 + 3 * j + 1 by omega, mI_s]
        · rw [mI_n (by omega)]; exact i4 i (by omega)
      · rw [f_Book_startAnew_L42, if_neg (show ¬ Int32.ofNat 12 ≤ nI j from nI_ge (b := 12) hj (by omega))]
        simp only [ck_t hix, nI_clamp (show j < 2 ^ 31 by omega)]
        unfold f_Table_startAnew
        rw [b3_s, nI_1]) (fun f y hI => by
      show f_Book_startAnew_L42 N S _ (f + 1) (nI 12) y = _
      rw [f_Book_startAnew_L42, if_pos (show Int32.ofNat 12 ≤ nI 12 by decide)]) 12 N m2 0 (by omega) (by omega) ⟨FB.refl, fun _ _ _ => rfl, rfl, fun i hi => by omega⟩
    exact ⟨m', e, i1, i2, i3, i4⟩
  obtain ⟨m2, ⟨i1, i2, i3, i4⟩, e⟩ := loopE (fun f (y : Mm) j => f_Book_startAnew_L13 N S (fun (z5_1 : Int32) (m5 : Mm) => f_Book_startAnew_L42 N S (fun (z9_1 : Int32) (m9 : Mm) => some m9) N 0 m5) f (nI j) y) (fun y j => FB m1 y ∧ (∀ a k, a < 30 → y.1 a k = m1.1 a k) ∧ y.2 = m1.2 ∧ ∀ i, i < j → mI y (34 + 3 * i) 1 = 0) 9 (fun y => f_Book_startAnew_L42 N S (fun (z9_1 : Int32) (m9 : Mm) => some m9) N 0 y) (fun f y j hj hI => by
    show ∃ y', _ ∧ f_Book_startAnew_L13 N S _ (f + 1) (nI j) y = _
    obtain ⟨i1, i2, i3, i4⟩ := hI
    have hix : ix (nI j) 9 := nI_in hj (by omega)
    refine ⟨vI y (33 + 3 * j + 1) 1 0, ⟨i1.trans (FB_i (by omega)), fun a k ha => (mI_n (m := y) (by omega)).trans (i2 a k ha), i3, fun i hi => ?_⟩, ?_⟩
    · by_cases q : i = j
      · rw [q, show 34 + 3 * j = 33 + 3 * j + 1 by omega, mI_s]
      · rw [mI_n (by omega)]; exact i4 i (by omega)
    · rw [f_Book_startAnew_L13, if_neg (show ¬ Int32.ofNat 9 ≤ nI j from nI_ge (b := 9) hj (by omega))]
      simp only [ck_t hix, nI_clamp (show j < 2 ^ 31 by omega)]
      unfold f_Table_startAnew
      rw [b3_s, nI_1]) (fun f y hI => by
    show f_Book_startAnew_L13 N S _ (f + 1) (nI 9) y = _
    rw [f_Book_startAnew_L13, if_pos (show Int32.ofNat 9 ≤ nI 9 by decide)]) 9 N m1 0 (by omega) (by omega) ⟨FB.refl, fun _ _ _ => rfl, rfl, fun i hi => by omega⟩
  obtain ⟨m3, j1, j2, j3, j4, j5⟩ := L42 m2
  refine ⟨m3, e.trans j1, RLm_g (fun k => (j3 18 k (by omega)).trans (i2 18 k (by omega))) (fun a _ => by rw [j4, i3]) k2, (k3.fb.trans i1).trans j2, fun i hi => (j3 _ 1 (by omega)).trans (i4 i hi), j5⟩
/-- four images are gone -/
theorem t_98 (hN : 1000 ≤ N) {m : Mm} (K : Int32 → Mm → Option (Int32 × Mm)) : ∃ m', f_SC_matter_L65 N S K N 0 m = K (nI 4) m' ∧ m'.1 = m.1 ∧ m'.2.1 = m.2.1 ∧ (∀ a, a ≠ 98 → m'.2.2.1 a = m.2.2.1 a) ∧ m'.2.2.2 = m.2.2.2 ∧ ∀ k, k < 4 → mX m' 98 k = 0 := by
  obtain ⟨m', ⟨i1, i2, i3, i4, i5⟩, e⟩ := loopE (fun f (y : Mm) j => f_SC_matter_L65 N S K f (nI j) y) (fun y j => y.1 = m.1 ∧ y.2.1 = m.2.1 ∧ (∀ a, a ≠ 98 → y.2.2.1 a = m.2.2.1 a) ∧ y.2.2.2 = m.2.2.2 ∧ ∀ k, k < j → mX y 98 k = 0) 4 (fun y => K (nI 4) y) (fun f y j hj hI => by
    show ∃ y', _ ∧ f_SC_matter_L65 N S K (f + 1) (nI j) y = _
    obtain ⟨i1, i2, i3, i4, i5⟩ := hI
    have hix : ix (nI j) 4 := nI_in hj (by omega)
    refine ⟨vX y 98 j 0, ⟨i1, i2, fun a ha => (vX_o ha).trans (i3 a ha), i4, fun k hk => ?_⟩, ?_⟩
    · by_cases q : k = j
      · rw [q, mX_s]
      · rw [mX_n (by omega)]; exact i5 k (by omega)
    · rw [f_SC_matter_L65, if_neg (show ¬ (4 : Int32) ≤ nI j from nI_ge (b := 4) hj (by omega))]
      simp only [ck_t hix, nI_clamp (show j < 2 ^ 31 by omega)]
      rw [nI_1, show vp_nar .boolean 0 = 0 from nar_tf false]) (fun f y hI => by
    show f_SC_matter_L65 N S K (f + 1) (nI 4) y = _
    rw [f_SC_matter_L65, if_pos (show (4 : Int32) ≤ nI 4 by decide)]) 4 N m 0 (by omega) (by omega) ⟨rfl, rfl, fun _ _ => rfl, rfl, fun k hk => by omega⟩
  exact ⟨m', e, i1, i2, i3, i4, i5⟩
theorem r_199 (hN : 1000 ≤ N) {m : Mm} (K : Int32 → Mm → Option (Int32 × Mm)) : ∃ m', f_Mo_matter_L199 N K N 0 m = K (nI 4) m' ∧ m'.1 = m.1 ∧ m'.2.1 = m.2.1 ∧ (∀ a, a ≠ 13 → m'.2.2.1 a = m.2.2.1 a) ∧ m'.2.2.2 = m.2.2.2 ∧ ∀ k, k < 4 → mX m' 13 k = 0 := by
  obtain ⟨m', ⟨i1, i2, i3, i4, i5⟩, e⟩ := loopE (fun f (y : Mm) j => f_Mo_matter_L199 N K f (nI j) y) (fun y j => y.1 = m.1 ∧ y.2.1 = m.2.1 ∧ (∀ a, a ≠ 13 → y.2.2.1 a = m.2.2.1 a) ∧ y.2.2.2 = m.2.2.2 ∧ ∀ k, k < j → mX y 13 k = 0) 4 (fun y => K (nI 4) y) (fun f y j hj hI => by
    show ∃ y', _ ∧ f_Mo_matter_L199 N K (f + 1) (nI j) y = _
    obtain ⟨i1, i2, i3, i4, i5⟩ := hI
    have hix : ix (nI j) 4 := nI_in hj (by omega)
    refine ⟨vX y 13 j 0, ⟨i1, i2, fun a ha => (vX_o ha).trans (i3 a ha), i4, fun k hk => ?_⟩, ?_⟩
    · by_cases q : k = j
      · rw [q, mX_s]
      · rw [mX_n (by omega)]; exact i5 k (by omega)
    · rw [f_Mo_matter_L199, if_neg (show ¬ (4 : Int32) ≤ nI j from nI_ge (b := 4) hj (by omega))]
      simp only [ck_t hix, nI_clamp (show j < 2 ^ 31 by omega)]
      rw [nI_1, show vp_nar .boolean 0 = 0 from nar_tf false]) (fun f y hI => by
    show f_Mo_matter_L199 N K (f + 1) (nI 4) y = _
    rw [f_Mo_matter_L199, if_pos (show (4 : Int32) ≤ nI 4 by decide)]) 4 N m 0 (by omega) (by omega) ⟨rfl, rfl, fun _ _ => rfl, rfl, fun k hk => by omega⟩
  exact ⟨m', e, i1, i2, i3, i4, i5⟩
/-- a row is copied -/
def Cop (a b n : Nat) (m m' : Mm) : Prop := m'.1 = m.1 ∧ m'.2.1 = m.2.1 ∧ (∀ c, c ≠ a → m'.2.2.1 c = m.2.2.1 c) ∧ m'.2.2.2 = m.2.2.2 ∧ ∀ k, k < n → mX m' a k = mX m b k
theorem Cop_1 {a b n : Nat} {m y : Mm} (hab : b ≠ a) (h : Cop a b n m y) : Cop a b (n + 1) m (vX y a n (mX y b n)) := by
  obtain ⟨i1, i2, i3, i4, i5⟩ := h
  refine ⟨i1, i2, fun c hc => (vX_o hc).trans (i3 c hc), i4, fun k hk => ?_⟩
  have e : mX y b n = mX m b n := by unfold mX; rw [i3 b hab]
  by_cases q : k = n
  · rw [q, mX_s, e]
  · rw [mX_n (by omega)]; exact i5 k (by omega)
theorem r_118 (hN : 1000 ≤ N) {m : Mm} (K : Int32 → Mm → Option (Int32 × Mm)) : ∃ m', f_Mo_matter_L118 N K N 0 m = K (nI 9) m' ∧ Cop 7 4 9 m m' := by
  obtain ⟨m', hI, e⟩ := loopE (fun f (y : Mm) j => f_Mo_matter_L118 N K f (nI j) y) (fun y j => Cop 7 4 j m y) 9 (fun y => K (nI 9) y) (fun f y j hj hI => by
    show ∃ y', _ ∧ f_Mo_matter_L118 N K (f + 1) (nI j) y = _
    have hix : ix (nI j) 9 := nI_in hj (by omega)
    refine ⟨_, Cop_1 (by omega) hI, ?_⟩
    rw [f_Mo_matter_L118, if_neg (show ¬ (9 : Int32) ≤ nI j from nI_ge (b := 9) hj (by omega))]
    simp only [ck_t hix, nI_clamp (show j < 2 ^ 31 by omega)]
    rw [nI_1]) (fun f y hI => by
    show f_Mo_matter_L118 N K (f + 1) (nI 9) y = _
    rw [f_Mo_matter_L118, if_pos (show (9 : Int32) ≤ nI 9 by decide)]) 9 N m 0 (by omega) (by omega) ⟨rfl, rfl, fun _ _ => rfl, rfl, fun k hk => by omega⟩
  exact ⟨m', e, hI⟩
theorem r_144 (hN : 1000 ≤ N) {m : Mm} (K : Int32 → Mm → Option (Int32 × Mm)) : ∃ m', f_Mo_matter_L144 N K N 0 m = K (nI 6) m' ∧ Cop 8 5 6 m m' := by
  obtain ⟨m', hI, e⟩ := loopE (fun f (y : Mm) j => f_Mo_matter_L144 N K f (nI j) y) (fun y j => Cop 8 5 j m y) 6 (fun y => K (nI 6) y) (fun f y j hj hI => by
    show ∃ y', _ ∧ f_Mo_matter_L144 N K (f + 1) (nI j) y = _
    have hix : ix (nI j) 6 := nI_in hj (by omega)
    refine ⟨_, Cop_1 (by omega) hI, ?_⟩
    rw [f_Mo_matter_L144, if_neg (show ¬ (6 : Int32) ≤ nI j from nI_ge (b := 6) hj (by omega))]
    simp only [ck_t hix, nI_clamp (show j < 2 ^ 31 by omega)]
    rw [nI_1]) (fun f y hI => by
    show f_Mo_matter_L144 N K (f + 1) (nI 6) y = _
    rw [f_Mo_matter_L144, if_pos (show (6 : Int32) ≤ nI 6 by decide)]) 6 N m 0 (by omega) (by omega) ⟨rfl, rfl, fun _ _ => rfl, rfl, fun k hk => by omega⟩
  exact ⟨m', e, hI⟩
theorem r_170 (hN : 1000 ≤ N) {m : Mm} (K : Int32 → Mm → Option (Int32 × Mm)) : ∃ m', f_Mo_matter_L170 N K N 0 m = K (nI 54) m' ∧ Cop 9 6 54 m m' := by
  obtain ⟨m', hI, e⟩ := loopE (fun f (y : Mm) j => f_Mo_matter_L170 N K f (nI j) y) (fun y j => Cop 9 6 j m y) 54 (fun y => K (nI 54) y) (fun f y j hj hI => by
    show ∃ y', _ ∧ f_Mo_matter_L170 N K (f + 1) (nI j) y = _
    have hix : ix (nI j) 54 := nI_in hj (by omega)
    refine ⟨_, Cop_1 (by omega) hI, ?_⟩
    rw [f_Mo_matter_L170, if_neg (show ¬ Int32.ofNat 54 ≤ nI j from nI_ge (b := 54) hj (by omega))]
    simp only [ck_t hix, nI_clamp (show j < 2 ^ 31 by omega)]
    rw [nI_1]) (fun f y hI => by
    show f_Mo_matter_L170 N K (f + 1) (nI 54) y = _
    rw [f_Mo_matter_L170, if_pos (show Int32.ofNat 54 ≤ nI 54 by decide)]) 54 N m 0 (by omega) (by omega) ⟨rfl, rfl, fun _ _ => rfl, rfl, fun k hk => by omega⟩
  exact ⟨m', e, hI⟩
theorem rz_00 : (0 : Int64) = rz 0 := by decide
/-- who is there from the first -/
theorem r_78 (hM : qOk M) (hN : 1000 ≤ N) {m : Mm} (h16 : mI m 0 16 = nI (qH M)) (h3 : ∀ i, i < qH M → mX m 3 i = tf (lt1 (qL M) i)) (h23 : mJ m 0 23 = 0) (K : Int32 → Mm → Option (Int32 × Mm)) : ∃ m', f_Mo_matter_L78 N K N 0 m = K (nI (qH M)) m' ∧ m'.1 = m.1 ∧ m'.2.2 = m.2.2 ∧ mJ m' 0 23 = rz (cfi M) := by
  have hH := hM.1
  obtain ⟨m', ⟨i1, i2, i3⟩, e⟩ := loopE (fun f (y : Mm) j => f_Mo_matter_L78 N K f (nI j) y) (fun y j => y.1 = m.1 ∧ y.2.2 = m.2.2 ∧ mJ y 0 23 = rz (fo (fun c i => if lt1 (qL M) i then c else cme c i) 0 0 j)) (qH M) (fun y => K (nI (qH M)) y) (fun f y j hj hI => by
    show ∃ y', _ ∧ f_Mo_matter_L78 N K (f + 1) (nI j) y = _
    obtain ⟨i1, i2, i3⟩ := hI
    have hix : ix (nI j) 3 := nI_in (by omega) (by omega)
    have e16 : mI y 0 16 = nI (qH M) := by unfold mI; rw [i1]; exact h16
    have eX : mX y 3 j = tf (lt1 (qL M) j) := by unfold mX; rw [i2]; exact h3 j hj
    have ef : fo (fun c i => if lt1 (qL M) i then c else cme c i) 0 0 (j + 1) = if lt1 (qL M) j then fo (fun c i => if lt1 (qL M) i then c else cme c i) 0 0 j else cme (fo (fun c i => if lt1 (qL M) i then c else cme c i) 0 0 j) j := by rw [fo_s, Nat.zero_add]
    rw [f_Mo_matter_L78, e16, if_neg (nI_ge hj (by omega))]
    simp only [ck_t hix, nI_clamp (show j < 2 ^ 31 by omega)]
    rw [eX, nI_1]
    cases hl : lt1 (qL M) j with
    | false =>
      rw [if_pos tf_f]
      refine ⟨vJ y 0 23 (mJ y 0 23 ||| lsl 1 (36 + nI j)), ⟨i1, i2, ?_⟩, rfl⟩
      rw [mJ_s, i3, ef, hl, show (36 : Int32) = nI 36 from rfl, nI_add, show (1 : Int64) = lN 1 from rfl, lsl_n _ (by omega), Nat.one_mul, rz_or (by omega), if_neg (show ¬ false = true by decide)]
    | true =>
      rw [if_neg tft]
      refine ⟨y, ⟨i1, i2, ?_⟩, rfl⟩
      rw [i3, ef, hl, if_pos rfl]) (fun f y hI => by
    show f_Mo_matter_L78 N K (f + 1) (nI (qH M)) y = _
    have e16 : mI y 0 16 = nI (qH M) := by unfold mI; rw [hI.1]; exact h16
    rw [f_Mo_matter_L78, e16, if_pos (nI_le (Nat.le_refl _) (by omega))]) (qH M) N m 0 (by omega) (by omega) ⟨rfl, rfl, h23.trans rz_00⟩
  refine ⟨m', e, i1, i2, ?_⟩
  rw [i3, c0_f (qH M) (by omega) (qL M) (qL8 hM) hM.2.2.2.2.1]
  unfold cfi
  exact Eq.refl _
theorem cnt_00 {p : Nat → Bool} : ∀ {n : Nat}, (∀ j, j < n → p j = false) → cnt p n = 0
  | 0, _ => rfl
  | n + 1, h => by
    have h1 := cnt_00 (n := n) (fun j hj => h j (by omega))
    have h2 := h n (by omega)
    show cnt p n + (if p n = true then 1 else 0) = 0
    rw [h1, h2]
    rfl
theorem r_forget (hN : 1000000 ≤ N) {m : Mm} (M : Mt) : ∃ m', f_Mo_forgets N m = some m' ∧ RE m' M ∧ (∀ a k, ¬ (a = 0 ∧ k = 33) → m'.1 a k = m.1 a k) ∧ m'.2.1 = m.2.1 ∧ m'.2.2.1 = m.2.2.1 ∧ ∀ a, a ≠ 14 → m'.2.2.2 a = m.2.2.2 a := by
  unfold f_Mo_forgets
  obtain ⟨m', ⟨i1, i2, i3, i4, i5⟩, e⟩ := loopE (fun f (y : Mm) j => f_Mo_forgets_L7 N (fun (z3_1 : Int32) (m3 : Mm) => some m3) f (nI j) y) (fun y j => y.1 = (vI m 0 33 0).1 ∧ y.2.1 = m.2.1 ∧ y.2.2.1 = m.2.2.1 ∧ (∀ a, a ≠ 14 → y.2.2.2 a = m.2.2.2 a) ∧ ∀ k, k < j → mYy y 14 k = 0) 262144 (fun y => some y) (fun f y j hj hI => by
    show ∃ y', _ ∧ f_Mo_forgets_L7 N _ (f + 1) (nI j) y = _
    obtain ⟨i1, i2, i3, i4, i5⟩ := hI
    have hix : ix (nI j) 262144 := nI_in hj (by omega)
    refine ⟨vY y 14 j 0, ⟨i1, i2, i3, fun a ha => (vY_o ha).trans (i4 a ha), fun k hk => ?_⟩, ?_⟩
    · by_cases q : k = j
      · rw [q, mY_s]
      · rw [mY_n (by omega)]; exact i5 k (by omega)
    · rw [f_Mo_forgets_L7, if_neg (show ¬ (262144 : Int32) ≤ nI j from nI_ge (b := 262144) hj (by omega))]
      simp only [ck_t hix, nI_clamp (show j < 2 ^ 31 by omega)]
      rw [nI_1]) (fun f y hI => by
    show f_Mo_forgets_L7 N _ (f + 1) (nI 262144) y = _
    rw [f_Mo_forgets_L7, if_pos (show (262144 : Int32) ≤ nI 262144 by decide)]) 262144 N (vI m 0 33 0) 0 (by omega) (by omega) ⟨rfl, rfl, rfl, fun _ _ => rfl, fun k hk => by omega⟩
  refine ⟨m', e, ⟨⟨0, ?_, by omega, ?_⟩, fun j c g b hj _ hg hb hk => ?_⟩, fun a k q => ?_, i2, i3, i4⟩
  · have : m'.1 0 33 = (vI m 0 33 0).1 0 33 := by rw [i1]
    exact this.trans mI_s
  · rw [cnt_00 (fun j hj => decide_eq_false (fun w => w (i5 j hj)))]
    exact Nat.le_refl _
  · rw [i5 j hj] at hk
    exact absurd hk.symm (kE_0 hg hb)
  · rw [i1]; exact mI_n (m := m) q
end MATTER
