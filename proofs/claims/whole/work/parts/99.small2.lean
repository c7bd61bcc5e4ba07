/-! SMALL CALLS that change NOW. -/
section SMALL2
variable {N : Nat} {M : Mt} {tl : Bool} {c d : Nat} {w : Option Nat} {im : Nat → Option (Nat × Nat × Option Nat)} {len : Nat} {S : St} {m mr : Mm}
theorem CIb_f {m' : Mm} (h1 : ∀ a k, ¬ a = 0 → m'.1 a k = m.1 a k) (h3 : ∀ a, 10 ≤ a ∧ a < 30 → m'.2.2.1 a = m.2.2.1 a) (h4 : ∀ a, a ≠ 99 → m'.2.2.2 a = m.2.2.2 a) (h : CIb M S m) : CIb M S m' := by
  obtain ⟨c1, c2, c3, c4, c5⟩ := h
  have hy : ∀ t f, t ∈ tKl → S.1 t 0 = some f → m'.2.2.2 f = m.2.2.2 f := fun t f ht hf => by
    obtain ⟨f', hf', hfo, _⟩ := c2.2.2.2.2.1 t ht
    have h95 := tKl_95 t ht
    rw [hf] at hf'
    have e : f = f' := Option.some.inj hf'
    exact h4 f (by omega)
  refine ⟨c1, Env_f (fun a k _ _ _ q => h1 a k q) h3 c2.2.2.2.2 c2, c3, fun g b hg hb => ?_, fun g k hg hk => ?_⟩
  · have : mI m' (34 + 3 * (3 * g + b)) 1 = mI m (34 + 3 * (3 * g + b)) 1 := h1 _ 1 (by omega)
    rw [this]
    exact (c4 g b hg hb).imp id (TE_of (fun f hf => ⟨hf, rfl, fun p => by unfold mYy; rw [hy _ f (tE_mem g hg b hb) hf]⟩))
  · have : mI m' (62 + 3 * (4 * g + k)) 1 = mI m (62 + 3 * (4 * g + k)) 1 := h1 _ 1 (by omega)
    rw [this]
    exact (c5 g k hg hk).imp id (TS_of (fun f hf => ⟨hf, rfl, fun p => by unfold mYy; rw [hy _ f (tS_mem g hg k hk) hf]⟩))
theorem CS0_f {m' : Mm} (h1 : ∀ a k, ¬ a = 0 → m'.1 a k = m.1 a k) (h3 : ∀ a, 10 ≤ a ∧ a < 30 → m'.2.2.1 a = m.2.2.1 a) (h : CS0 S m) : CS0 S m' := by
  obtain ⟨c1, c2, c3, c4, c5⟩ := h
  have eX : ∀ a k, 10 ≤ a ∧ a < 30 → mX m' a k = mX m a k := fun a k ha => by unfold mX; rw [h3 a ha]
  refine ⟨c1, ?_, ⟨fun i hi => (h1 _ 3 (by omega)).trans (c3.1 i hi), fun i hi => (h1 _ 3 (by omega)).trans (c3.2 i hi)⟩, c4, c5⟩
  unfold RKm at *
  simp only [eX 19 _ (by omega), eX 20 _ (by omega), eX 22 _ (by omega), eX 23 _ (by omega), eX 24 _ (by omega)]
  exact c2
theorem CW_f {m' : Mm} (h1 : ∀ k, m'.1 10 k = m.1 10 k) (h3 : ∀ a, 10 ≤ a ∧ a < 30 → m'.2.2.1 a = m.2.2.1 a) (h : CW m 10 M) : CW m' 10 M := by
  have e10 : ∀ k, mI m' 10 k = mI m 10 k := h1
  have eX : ∀ a k, 10 ≤ a ∧ a < 30 → mX m' a k = mX m a k := fun a k ha => by unfold mX; rw [h3 a ha]
  unfold CW at *
  simp only [e10, eX (10 + 2) _ (by omega), eX (10 + 3) _ (by omega), eX (10 + 4) _ (by omega), eX (10 + 5) _ (by omega), eX (10 + 6) _ (by omega)]
  exact h
/-- NOW is another -/
theorem REL_now {c' d' : Nat} {w' : Option Nat} {m' mr' : Mm} (h : REL tl M c d w im len S m mr) (hw : NW M c' d' w') (hf : tl = false → w' = none) (hc1 : ∀ a k, ¬ (a = 0 ∧ k = 8) → m'.1 a k = m.1 a k) (hc3 : m'.2.2 = m.2.2) (hcn : CN m' c' d' w') (hr1 : ∀ a k, ¬ (a = 0 ∧ (k = 24 ∨ k = 25)) → mr'.1 a k = mr.1 a k) (hr3 : mr'.2.2 = mr.2.2) (hrn : RNw mr' c' d' w') : REL tl M c' d' w' im len S m' mr' := by
  obtain ⟨a1, a2, a3, a4, a5, a6, a7⟩ := h
  have eX : ∀ a k, mX m' a k = mX m a k := fun a k => by unfold mX; rw [hc3]
  have eY : ∀ a k, mYy m' a k = mYy m a k := fun a k => by unfold mYy; rw [hc3]
  have rX : ∀ a k, mX mr' a k = mX mr a k := fun a k => by unfold mX; rw [hr3]
  have rY : ∀ a k, mYy mr' a k = mYy mr a k := fun a k => by unfold mYy; rw [hr3]
  refine ⟨⟨a1.1, hw⟩, ⟨⟨CS0_f (fun a k q => hc1 a k (by omega)) (fun a _ => by rw [hc3]) a2.1.1, WK_f (hc1 30 3 (by omega)) (fun a i _ => by rw [hc3]; exact Or.inl rfl) a2.1.2⟩, CW_f (fun k => hc1 10 k (by omega)) (fun a _ => by rw [hc3]) a2.2.1, (hc1 0 6 (by omega)).trans a2.2.2.1, hcn⟩, ⟨RW_of (fun k hk => hr1 0 k (by omega)) (fun a _ => by rw [hr3]) a3.1, (hr1 0 15 (by omega)).trans a3.2.1, hrn⟩, fun k hk => ?_, ?_, fun q => ⟨(a6 q).1, CIb_f (fun a k q => hc1 a k (by omega)) (fun a _ => by rw [hc3]) (fun a _ => by rw [hc3]) (a6 q).2.1, ?_⟩, fun q => ⟨(a7 q).1, (a7 q).2.1, hf q, (a7 q).2.2.2⟩⟩
  · have := a4 k hk
    unfold IMk at *
    simp only [eX, eY, rX, rY]
    exact this
  · obtain ⟨t1, t2, t3, t4⟩ := a5
    exact ⟨t1, (hc1 0 1 (by omega)).trans t2, (hr1 0 1 (by omega)).trans t3, fun i hi => by rw [eX, rX]; exact t4 i hi⟩
  · have hR := (a6 q).2.2
    have e1 : mI mr' 0 33 = mI mr 0 33 := hr1 0 33 (by omega)
    unfold RE at *
    simp only [e1, rX, rY]
    exact hR
/-- both answer the same; NOW may be another -/
def StN (tl : Bool) (M : Mt) (im : Nat → Option (Nat × Nat × Option Nat)) (len : Nat) (S : St) (fC fR : Option (Int32 × Mm)) : Prop := ∃ r m' mr' c' d' w', fC = some (r, m') ∧ fR = some (r, mr') ∧ REL tl M c' d' w' im len S m' mr'
theorem StN_same {r : Int32} (h : REL tl M c d w im len S m mr) : StN tl M im len S (some (r, m)) (some (r, mr)) := ⟨r, m, mr, c, d, w, rfl, rfl, h⟩
theorem st_give (hN : 1000000 ≤ N) (h : REL tl M c d w im len S m mr) (x : Int32) : StN tl M im len S (f_SC_give N S x m) (f_Mo_give N x mr) := by
  have hM := h.1.1
  have hO := hM.2.2.1
  have hH := hM.1
  have hd8 : d < 8 := by have := hM.2.1; have := h.1.2.2.1; omega
  cases w with
  | none =>
    have eC : f_SC_give N S x m = some (0, m) := by unfold f_SC_give; rw [h.2.1.2.2.2.2, if_pos (show zOpt none = -1 from rfl)]
    have eR : f_Mo_give N x mr = some (0, mr) := by unfold f_Mo_give; rw [h.2.2.1.2.2.2.2, if_pos (show zOpt none = -1 from rfl)]
    rw [eC, eR]
    exact StN_same h
  | some s =>
    obtain ⟨hs, ht⟩ := h.1.2.2.2.2.2 s rfl
    have no : f_Will_mayGive N S 10 (cs c d) x (nI (qO M)) m = some 0 → f_Mo_mayGive N (rz c) x (nI (qO M)) = some 0 → StN tl M im len S (f_SC_give N S x m) (f_Mo_give N x mr) := by
      intro e1 e2
      have eC : f_SC_give N S x m = some (0, m) := by unfold f_SC_give; rw [h.2.1.2.2.2.2, if_neg (zs_m1 hs), h.2.1.2.2.2.1, h.2.1.2.1.2.2.1, e1, b1_s, if_pos rfl]
      have eR : f_Mo_give N x mr = some (0, mr) := by unfold f_Mo_give; rw [h.2.2.1.2.2.2.2, if_neg (zs_m1 hs), h.2.2.1.2.2.1, h.2.2.1.1.2.2.1, e2, b1_s, if_pos rfl]
      rw [eC, eR]
      exact StN_same h
    have big : ∀ (y : Int), x.toInt = y → (y < 0 ∨ 4 ≤ y) → StN tl M im len S (f_SC_give N S x m) (f_Mo_give N x mr) := by
      intro y hy hyy
      have t0 : (0 : Int32).toInt = 0 := by decide
      have t2 : (2 : Int32).toInt = 2 := by decide
      have n3 : ¬ x = 3 := eqI (j := 3) (by omega) (by omega)
      refine no ?_ ?_
      · unfold f_Will_mayGive f_Will_isHeir
        rw [if_neg n3, h.2.1.2.1.1]
        by_cases q : x < 0
        · rw [if_pos q, b1_s, if_pos rfl]
        · rw [if_neg q]
          have : nI (qH M) ≤ x := by
            rw [Int32.le_iff_toInt_le, nI_toInt (by omega)]
            rw [Int32.lt_iff_toInt_lt] at q
            omega
          rw [if_pos this, b1_s, if_pos rfl]
      · unfold f_Mo_mayGive f_Mo_in
        rw [if_neg n3]
        by_cases q : x < 0
        · rw [if_pos q, b1_s, if_pos rfl]
        · have : (2 : Int32) < x := by
            rw [Int32.lt_iff_toInt_lt] at q ⊢
            omega
          rw [if_neg q, if_pos this, b1_s, if_pos rfl]
    rcases pk_ix x (n := 4) (by omega) with hx | hx | ⟨to, h4, rfl⟩
    · rw [Int32.lt_iff_toInt_lt] at hx
      exact big _ rfl (Or.inl hx)
    · rw [Int32.le_iff_toInt_le, nI_toInt (by omega)] at hx
      exact big _ rfl (Or.inr hx)
    · have e1 := tW_mayGive (N := N) (S := S) hM h.2.1.2.1 h.1.2.1.1 hd8 h4 (show qO M < 100 by omega)
      have e2 := tR_mayGive (N := N) (ho := qO M) hM h.1.2.1.2.1 h4 (by omega)
      cases eb : may M c to (qO M)
      · rw [eb] at e1 e2
        exact no e1 e2
      · rw [eb] at e1 e2
        have hnw : NW M (c + 8 ^ (4 * s + to)) d none := by
          have hDs := Ds_give (ho := qO M) (s := s) h.1.2.1 ht (by have := hM.2.1; have := h.1.2.2.1; omega) h.1.2.2.2.1 hs h4 eb
          exact ⟨hDs.1, h.1.2.2.1, hDs.2.2, hDs.2.1, fun _ q => by cases q⟩
        refine ⟨1, vI (vJ m 0 7 (cs (c + 8 ^ (4 * s + to)) d)) 0 8 (-1), vI (vJ mr 0 23 (rz (c + 8 ^ (4 * s + to)))) 0 25 (-1), _, d, none, ?_, ?_, REL_now h hnw (fun _ => rfl) (fun a k q => ?_) rfl ⟨?_, ?_⟩ (fun a k q => ?_) rfl ⟨?_, ?_, ?_⟩⟩
        · unfold f_SC_give
          rw [h.2.1.2.2.2.2, if_neg (zs_m1 hs), h.2.1.2.2.2.1, h.2.1.2.1.2.2.1, e1, b1_s, if_neg tft, show zOpt (some s) = nI s from rfl, t_with hs h4, b1_s]
        · unfold f_Mo_give
          rw [h.2.2.1.2.2.2.2, if_neg (zs_m1 hs), h.2.2.1.2.2.1, h.2.2.1.1.2.2.1, e2, b1_s, if_neg tft, show zOpt (some s) = nI s from rfl, t_Mone hs h4, b1_s, rz_add h.1.2.1.1 hs h4 (am7 hs h4 (by have := h.1.2.1.2.2.2.2; omega))]
        · show u2 m.1 0 8 (-1) a k = _
          unfold u2
          rw [if_neg q]
        · show u2 m.2.1 0 7 (cs (c + 8 ^ (4 * s + to)) d) 0 7 = _
          rw [u2_s]
        · show u2 m.1 0 8 (-1) 0 8 = _
          rw [u2_s]
          rfl
        · show u2 mr.1 0 25 (-1) a k = _
          unfold u2
          rw [if_neg (by omega)]
        · show u2 mr.2.1 0 23 (rz (c + 8 ^ (4 * s + to))) 0 23 = _
          rw [u2_s]
        · show u2 mr.1 0 25 (-1) 0 24 = _
          rw [u2_k _ _ _ _ (by omega)]
          exact h.2.2.1.2.2.2.1
        · show u2 mr.1 0 25 (-1) 0 25 = _
          rw [u2_s]
          rfl
theorem st_count (hN : 1000000 ≤ N) (h : REL tl M c d w im len S m mr) (x : Int32) : ∃ r, f_SC_count N S x m = some r ∧ f_Mo_count N x mr = some r := by
  have hM := h.1.1
  have hd8 : d < 8 := by have := hM.2.1; have := h.1.2.2.1; omega
  unfold f_SC_count f_Mo_count
  by_cases q0 : x = 0
  · rw [if_pos q0, if_pos q0, h.2.1.2.1.1, h.2.2.1.1.1]
    exact ⟨_, rfl, rfl⟩
  rw [if_neg q0, if_neg q0]
  by_cases q1 : x = 1
  · rw [if_pos q1, if_pos q1, h.2.1.2.1.2.1, h.2.2.1.1.2.1]
    exact ⟨_, rfl, rfl⟩
  rw [if_neg q1, if_neg q1]
  by_cases q2 : x = 2
  · rw [if_pos q2, if_pos q2, h.2.1.2.2.2.1, t_dayOf h.1.2.1.1 hd8, b1_s, h.2.2.1.2.2.2.1]
    exact ⟨_, rfl, rfl⟩
  rw [if_neg q2, if_neg q2]
  by_cases q3 : x = 3
  · have e := lsr_dg (n := rf c) (i := 12) (rf_lt2 c) (by omega)
    rw [rf_12] at e
    have e' : (lsr (rz c) 36).toInt32 &&& 7 = nI (dg c 12) := e
    rw [if_pos q3, if_pos q3, h.2.1.2.2.2.1, t_cameOf h.1.2.1.1 hd8, b1_s, h.2.2.1.2.2.1, e']
    exact ⟨_, rfl, rfl⟩
  rw [if_neg q3, if_neg q3]
  by_cases q4 : x = 4
  · rw [if_pos q4, if_pos q4, h.2.1.2.2.2.1, t_heldOf h.1.2.1.1 hd8, b1_s, h.2.2.1.2.2.1, t_Mheld, b1_s]
    exact ⟨_, rfl, rfl⟩
  rw [if_neg q4, if_neg q4]
  by_cases q5 : x = 5
  · rw [if_pos q5, if_pos q5, h.2.1.2.2.2.2, h.2.2.1.2.2.2.2]
    exact ⟨_, rfl, rfl⟩
  rw [if_neg q5, if_neg q5]
  by_cases q6 : x = 6
  · rw [if_pos q6, if_pos q6, h.2.1.2.1.2.2.1, h.2.2.1.1.2.2.1]
    exact ⟨_, rfl, rfl⟩
  rw [if_neg q6, if_neg q6]
  by_cases q7 : x = 7
  · rw [if_pos q7, if_pos q7, h.2.1.2.1.2.2.2.1, h.2.2.1.1.2.2.2.1]
    exact ⟨_, rfl, rfl⟩
  rw [if_neg q7, if_neg q7]
  by_cases q8 : x = 8
  · rw [if_pos q8, if_pos q8, h.2.2.2.2.1.2.1, h.2.2.2.2.1.2.2.1]
    exact ⟨_, rfl, rfl⟩
  rw [if_neg q8, if_neg q8]
  exact ⟨_, rfl, rfl⟩
end SMALL2
