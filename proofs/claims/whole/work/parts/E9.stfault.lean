/-! fault: the call. -/
section STFAULT
variable {N : Nat} {M : Mt} {tl : Bool} {c d : Nat} {w : Option Nat} {im : Nat → Option (Nat × Nat × Option Nat)} {len : Nat} {S : St} {m m' mr mr' : Mm}
theorem FX_g (h1 : ∀ a k, 30 < a → m'.1 a k = m.1 a k) (h : FX m) : FX m' := ⟨fun i hi => (h1 _ 3 (by omega)).trans (h.1 i hi), fun i hi => (h1 _ 3 (by omega)).trans (h.2 i hi)⟩
theorem RKm_g (h3 : ∀ a, 19 ≤ a ∧ a < 25 → m'.2.2.1 a = m.2.2.1 a) (h : RKm m) : RKm m' := by
  have eX : ∀ a k, 19 ≤ a ∧ a < 25 → mX m' a k = mX m a k := fun a k ha => by unfold mX; rw [h3 a ha]
  unfold RKm at *
  simp only [eX 19 _ (by omega), eX 20 _ (by omega), eX 22 _ (by omega), eX 23 _ (by omega), eX 24 _ (by omega)]
  exact h
theorem RLm_g (h1 : ∀ k, m'.1 18 k = m.1 18 k) (h3 : ∀ a, 25 ≤ a ∧ a < 29 → m'.2.2.1 a = m.2.2.1 a) (h : RLm m M) : RLm m' M := by
  have e18 : ∀ k, mI m' 18 k = mI m 18 k := h1
  have eX : ∀ a k, 25 ≤ a ∧ a < 29 → mX m' a k = mX m a k := fun a k ha => by unfold mX; rw [h3 a ha]
  unfold RLm at *
  simp only [e18, eX 25 _ (by omega), eX 26 _ (by omega), eX 27 _ (by omega), eX 28 _ (by omega)]
  exact h
theorem CIb_g (h1 : ∀ a k, 10 ≤ a → m'.1 a k = m.1 a k) (h3 : ∀ a, 10 ≤ a ∧ a < 30 → m'.2.2.1 a = m.2.2.1 a) (h4 : ∀ a, 30 < a → a ≠ 99 → m'.2.2.2 a = m.2.2.2 a) (h : CIb M S m) : CIb M S m' := by
  obtain ⟨c1, c2, c3, c4, c5⟩ := h
  have hy : ∀ t f, t ∈ tKl → S.1 t 0 = some f → m'.2.2.2 f = m.2.2.2 f := fun t f ht hf => by
    obtain ⟨f', hf', hfo, _⟩ := c2.2.2.2.2.1 t ht
    have h95 := tKl_95 t ht
    rw [hf] at hf'
    have e : f = f' := Option.some.inj hf'
    exact h4 f (by omega) (by omega)
  refine ⟨c1, ⟨CW_f (fun k => h1 10 k (by omega)) h3 c2.1, RKm_g (fun a ha => h3 a (by omega)) c2.2.1, RLm_g (fun k => h1 18 k (by omega)) (fun a ha => h3 a (by omega)) c2.2.2.1, FX_g (fun a k ha => h1 a k (by omega)) c2.2.2.2.1, c2.2.2.2.2⟩, c3, fun g b hg hb => ?_, fun g k hg hk => ?_⟩
  · have : mI m' (34 + 3 * (3 * g + b)) 1 = mI m (34 + 3 * (3 * g + b)) 1 := h1 _ 1 (by omega)
    rw [this]
    exact (c4 g b hg hb).imp id (TE_of (fun f hf => ⟨hf, rfl, fun p => by unfold mYy; rw [hy _ f (tE_mem g hg b hb) hf]⟩))
  · have : mI m' (62 + 3 * (4 * g + k)) 1 = mI m (62 + 3 * (4 * g + k)) 1 := h1 _ 1 (by omega)
    rw [this]
    exact (c5 g k hg hk).imp id (TS_of (fun f hf => ⟨hf, rfl, fun p => by unfold mYy; rw [hy _ f (tS_mem g hg k hk) hf]⟩))
/-- the text was read into the draft -/
theorem REL_rd (h : REL tl M c d w im len S m mr) (hC : FrX 3 m m') (hP : FP mr mr') : REL tl M c d w im len S m' mr' := by
  obtain ⟨a1, a2, a3, a4, a5, a6, a7⟩ := h
  have e8 : ∀ a k, a = 1 ∨ a = 98 ∨ a = 100 → mX m' a k = mX m a k := fun a k ha => by unfold mX; rw [hC.2.2.1 a (by omega)]
  have e9 : ∀ k, mYy m' 99 k = mYy m 99 k := fun k => by unfold mYy; rw [hC.2.2.2 99 (by omega)]
  have er : ∀ a k, a = 1 ∨ a = 13 ∨ a = 11 ∨ a = 12 ∨ a = 15 → mX mr' a k = mX mr a k := fun a k ha => by unfold mX; rw [hP.2.2.1 a (by omega)]
  have er2 : ∀ a k, a = 10 ∨ a = 14 → mYy mr' a k = mYy mr a k := fun a k ha => by unfold mYy; rw [hP.2.2.2 a (by omega)]
  refine ⟨a1, ⟨⟨⟨a2.1.1.1, RKm_g (fun a ha => hC.2.2.1 a (by omega)) a2.1.1.2.1, FX_g (fun a k ha => hC.1 a k (by omega) (by omega)) a2.1.1.2.2.1, a2.1.1.2.2.2⟩, WK_f (hC.1 30 3 (by omega) (by omega)) (fun a i ha => Or.inl (by rw [hC.2.2.1 a (by omega)])) a2.1.2⟩, CW_f (fun k => hC.1 10 k (by omega) (by omega)) (fun a ha => hC.2.2.1 a (by omega)) a2.2.1, (hC.1 0 6 (by omega) (by omega)).trans a2.2.2.1, (hC.2.1 0 7 (by omega)).trans a2.2.2.2.1, (hC.1 0 8 (by omega) (by omega)).trans a2.2.2.2.2⟩, ⟨RW_of (fun k hk => hP.1 0 k (by omega)) (fun a ha => hP.2.2.1 a (by omega)) a3.1, (hP.1 0 15 (by omega)).trans a3.2.1, (hP.2.1 0 23 (by omega)).trans a3.2.2.1, (hP.1 0 24 (by omega)).trans a3.2.2.2.1, (hP.1 0 25 (by omega)).trans a3.2.2.2.2⟩, fun k hk => ?_, ?_, fun q => ⟨(a6 q).1, CIb_g (fun a k ha => hC.1 a k (by omega) (by omega)) (fun a ha => hC.2.2.1 a (by omega)) (fun a ha _ => hC.2.2.2 a (by omega)) (a6 q).2.1, ?_⟩, a7⟩
  · have := a4 k hk
    unfold IMk at *
    simp only [e8 98 _ (by omega), e8 100 _ (by omega), e9, er 13 _ (by omega), er 11 _ (by omega), er 12 _ (by omega), er2 10 _ (by omega)]
    exact this
  · obtain ⟨t1, t2, t3, t4⟩ := a5
    refine ⟨t1, (hC.1 0 1 (by omega) (by omega)).trans t2, (hP.1 0 1 (by omega)).trans t3, fun i hi => ?_⟩
    rw [e8 1 i (by omega), er 1 i (by omega)]
    exact t4 i hi
  · have hR := (a6 q).2.2
    have e1 : mI mr' 0 33 = mI mr 0 33 := hP.1 0 33 (by omega)
    unfold RE at *
    simp only [e1, er 15 _ (by omega), er2 14 _ (by omega)]
    exact hR
theorem st_fault (hN : 1000000 ≤ N) (h : REL tl M c d w im len S m mr) : ∃ r m' mr', f_SC_fault N S m = some (r, m') ∧ f_Mo_fault N mr = some (r, mr') ∧ REL tl M c d w im len S m' mr' := by
  obtain ⟨t1, t2, t3, t4⟩ := h.2.2.2.2.1
  obtain ⟨r, m', mr', i1, i2, i3, i4, _⟩ := fault_sim (N := N) (S := S) (x := 3) (Or.inl rfl) (by omega) t1 t3 t4
  refine ⟨r, m', mr', ?_, i2, REL_rd h i3 i4⟩
  unfold f_SC_fault
  rw [t2, i1, b2_s]
end STFAULT
