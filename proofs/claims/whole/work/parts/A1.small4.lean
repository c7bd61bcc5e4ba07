/-! SMALL CALLS: image, on, paper, end. -/
theorem nar1 : vp_nar .boolean 1 = 1 := by decide
section SMALL4
variable {N : Nat} {M : Mt} {tl : Bool} {c d : Nat} {w : Option Nat} {im : Nat → Option (Nat × Nat × Option Nat)} {len : Nat} {S : St} {m mr : Mm}
theorem st_image (h : REL tl M c d w im len S m mr) (x : Int32) : ∃ r m' mr' im', f_SC_image N S x m = some (r, m') ∧ f_Mo_image N x mr = some (r, mr') ∧ REL tl M c d w im' len S m' mr' := by
  cases tl with
  | false =>
    refine ⟨0, m, mr, im, ?_, ?_, h⟩
    · unfold f_SC_image
      rw [h.2.1.2.2.1, if_pos tf_f]
    · unfold f_Mo_image
      rw [h.2.2.1.2.1, if_pos tf_f]
  | true =>
    rcases pk_ix x (n := 4) (by omega) with hx | hx | ⟨k, hk, rfl⟩
    · refine ⟨0, m, mr, im, ?_, ?_, h⟩
      · unfold f_SC_image
        rw [h.2.1.2.2.1, if_neg tft, if_pos hx]
      · unfold f_Mo_image
        rw [h.2.2.1.2.1, if_neg tft, in_lo hx, b1_s, if_pos rfl]
    · have hb := i32_big (by omega) hx
      have h3 : f_Mo_in N x 0 3 = some 0 := in_hi (n := 4) (by omega) hx
      have hlt : ¬ x < 4 := by
        rw [Int32.lt_iff_toInt_lt]
        have t4 : (4 : Int32).toInt = 4 := by decide
        have := hb.2.2
        omega
      refine ⟨0, m, mr, im, ?_, ?_, h⟩
      · unfold f_SC_image
        rw [h.2.1.2.2.1, if_neg tft, if_neg hb.1, if_neg hlt]
      · unfold f_Mo_image
        rw [h.2.2.1.2.1, if_neg tft, h3, b1_s, if_pos rfl]
    · have h3 : f_Mo_in N (nI k) 0 3 = some 1 := in_ok (n := 4) (by omega) hk
      have hix : ix (nI k) 4 := nI_in hk (by omega)
      refine ⟨1, vX (vY (vX m 98 k 1) 99 k (cs c d)) 100 k (zOpt w), vX (vX (vX (vY mr 10 k (rz c)) 11 k (nI d)) 12 k (zOpt w)) 13 k 1, (fun j => if j = k then some (c, d, w) else im j), ?_, ?_, ?_⟩
      · unfold f_SC_image
        rw [h.2.1.2.2.1, if_neg tft, if_neg (nI_pos (by omega)), if_pos (show nI k < 4 from nI_lt (b := 4) hk (by omega))]
        simp only [ck_t hix, nI_clamp (show k < 2 ^ 31 by omega)]
        rw [nar1, h.2.1.2.2.2.1, h.2.1.2.2.2.2]
      · unfold f_Mo_image
        rw [h.2.2.1.2.1, if_neg tft, h3, b1_s, if_neg (show ¬ (1 : Int32) = 0 by decide)]
        simp only [ck_t hix, nI_clamp (show k < 2 ^ 31 by omega)]
        rw [nar1, h.2.2.1.2.2.1, h.2.2.1.2.2.2.1, h.2.2.1.2.2.2.2]
      · obtain ⟨a1, a2, a3, a4, a5, a6, a7⟩ := h
        generalize hm' : vX (vY (vX m 98 k 1) 99 k (cs c d)) 100 k (zOpt w) = m'
        generalize hmr' : vX (vX (vX (vY mr 10 k (rz c)) 11 k (nI d)) 12 k (zOpt w)) 13 k 1 = mr'
        have c1 : m'.1 = m.1 := by rw [← hm']; rfl
        have c2 : m'.2.1 = m.2.1 := by rw [← hm']; rfl
        have c3 : ∀ a, a ≠ 98 → a ≠ 100 → m'.2.2.1 a = m.2.2.1 a := fun a q1 q2 => by
          rw [← hm']
          funext j
          show u2 (u2 m.2.2.1 98 k 1) 100 k (zOpt w) a j = _
          rw [u2_a _ _ _ _ q2, u2_a _ _ _ _ q1]
        have c4 : ∀ a, a ≠ 99 → m'.2.2.2 a = m.2.2.2 a := fun a q => by
          rw [← hm']
          funext j
          exact u2_a _ _ _ _ q
        have r1 : mr'.1 = mr.1 := by rw [← hmr']; rfl
        have r2 : mr'.2.1 = mr.2.1 := by rw [← hmr']; rfl
        have r3 : ∀ a, a ≠ 11 → a ≠ 12 → a ≠ 13 → mr'.2.2.1 a = mr.2.2.1 a := fun a q1 q2 q3 => by
          rw [← hmr']
          funext j
          show u2 (u2 (u2 mr.2.2.1 11 k (nI d)) 12 k (zOpt w)) 13 k 1 a j = _
          rw [u2_a _ _ _ _ q3, u2_a _ _ _ _ q2, u2_a _ _ _ _ q1]
        have r4 : ∀ a, a ≠ 10 → mr'.2.2.2 a = mr.2.2.2 a := fun a q => by
          rw [← hmr']
          funext j
          exact u2_a _ _ _ _ q
        have x98 : ∀ j, mX m' 98 j = if j = k then 1 else mX m 98 j := fun j => by
          rw [← hm']
          show u2 (u2 m.2.2.1 98 k 1) 100 k (zOpt w) 98 j = _
          rw [u2_a _ _ _ _ (by omega), u2_eq]
          rfl
        have x100 : ∀ j, mX m' 100 j = if j = k then zOpt w else mX m 100 j := fun j => by
          rw [← hm']
          show u2 (u2 m.2.2.1 98 k 1) 100 k (zOpt w) 100 j = _
          rw [u2_eq, u2_a _ _ _ _ (by omega)]
          rfl
        have x99 : ∀ j, mYy m' 99 j = if j = k then cs c d else mYy m 99 j := fun j => by
          rw [← hm']
          show u2 m.2.2.2 99 k (cs c d) 99 j = _
          rw [u2_eq]
          rfl
        have y11 : ∀ j, mX mr' 11 j = if j = k then nI d else mX mr 11 j := fun j => by
          rw [← hmr']
          show u2 (u2 (u2 mr.2.2.1 11 k (nI d)) 12 k (zOpt w)) 13 k 1 11 j = _
          rw [u2_a _ _ _ _ (by omega), u2_a _ _ _ _ (by omega), u2_eq]
          rfl
        have y12 : ∀ j, mX mr' 12 j = if j = k then zOpt w else mX mr 12 j := fun j => by
          rw [← hmr']
          show u2 (u2 (u2 mr.2.2.1 11 k (nI d)) 12 k (zOpt w)) 13 k 1 12 j = _
          rw [u2_a _ _ _ _ (by omega), u2_eq, u2_a _ _ _ _ (by omega)]
          rfl
        have y13 : ∀ j, mX mr' 13 j = if j = k then 1 else mX mr 13 j := fun j => by
          rw [← hmr']
          show u2 (u2 (u2 mr.2.2.1 11 k (nI d)) 12 k (zOpt w)) 13 k 1 13 j = _
          rw [u2_eq, u2_a _ _ _ _ (by omega), u2_a _ _ _ _ (by omega)]
          rfl
        have y10 : ∀ j, mYy mr' 10 j = if j = k then rz c else mYy mr 10 j := fun j => by
          rw [← hmr']
          show u2 mr.2.2.2 10 k (rz c) 10 j = _
          rw [u2_eq]
          rfl
        have eI : ∀ a j, mI m' a j = mI m a j := fun a j => by unfold mI; rw [c1]
        have eJ : ∀ a j, mJ m' a j = mJ m a j := fun a j => by unfold mJ; rw [c2]
        have fI : ∀ a j, mI mr' a j = mI mr a j := fun a j => by unfold mI; rw [r1]
        have fJ : ∀ a j, mJ mr' a j = mJ mr a j := fun a j => by unfold mJ; rw [r2]
        have stc : ∀ f f' : Nat → Option (Nat × Nat × Option Nat), f 4 = f' 4 → stm f = stm f' := fun f f' q => by unfold stm; rw [q]
        have hst : stm (fun i => if i = k then some (c, d, w) else im i) = stm im := stc _ _ (if_neg (show ¬ 4 = k by omega))
        have hwk : WK m' (stm (fun i => if i = k then some (c, d, w) else im i)) := by
          rw [hst]
          exact WK_f (by rw [c1]) (fun a i ha => by rw [c3 a (by omega) (by omega)]; exact Or.inl rfl) a2.1.2
        refine ⟨a1, ⟨⟨CS0_f (fun a j _ => by rw [c1]) (fun a ha => c3 a (by omega) (by omega)) a2.1.1, hwk⟩, CW_f (fun j => by rw [c1]) (fun a ha => c3 a (by omega) (by omega)) a2.2.1, (eI 0 6).trans a2.2.2.1, (eJ 0 7).trans a2.2.2.2.1, (eI 0 8).trans a2.2.2.2.2⟩, ⟨RW_of (fun j _ => by rw [r1]) (fun a ha => r3 a (by omega) (by omega) (by omega)) a3.1, (fI 0 15).trans a3.2.1, (fJ 0 23).trans a3.2.2.1, (fI 0 24).trans a3.2.2.2.1, (fI 0 25).trans a3.2.2.2.2⟩, fun j hj => ?_, ?_, fun q => ⟨(a6 q).1, CIb_f (fun a j _ => by rw [c1]) (fun a ha => c3 a (by omega) (by omega)) c4 (a6 q).2.1, ?_⟩, fun q => by cases q⟩
        · by_cases q : j = k
          · have e : (if j = k then some (c, d, w) else im j) = some (c, d, w) := if_pos q
            show IMk M m' mr' j (if j = k then some (c, d, w) else im j)
            rw [e]
            unfold IMk
            show mX m' 98 j = 1 ∧ mX mr' 13 j = 1 ∧ NW M c d w ∧ mYy m' 99 j = cs c d ∧ mX m' 100 j = zOpt w ∧ mYy mr' 10 j = rz c ∧ mX mr' 11 j = nI d ∧ mX mr' 12 j = zOpt w
            rw [x98, y13, x99, x100, y10, y11, y12, if_pos q, if_pos q, if_pos q, if_pos q, if_pos q, if_pos q, if_pos q]
            exact ⟨rfl, rfl, a1.2, rfl, rfl, rfl, rfl, rfl⟩
          · have e : (if j = k then some (c, d, w) else im j) = im j := if_neg q
            show IMk M m' mr' j (if j = k then some (c, d, w) else im j)
            rw [e]
            have := a4 j hj
            unfold IMk at *
            simp only [x98, y13, x99, x100, y10, y11, y12, if_neg q]
            exact this
        · obtain ⟨t1, t2, t3, t4⟩ := a5
          refine ⟨t1, (eI 0 1).trans t2, (fI 0 1).trans t3, fun i hi => ?_⟩
          have g1 : mX m' 1 i = mX m 1 i := by unfold mX; rw [c3 1 (by omega) (by omega)]
          have g2 : mX mr' 1 i = mX mr 1 i := by unfold mX; rw [r3 1 (by omega) (by omega) (by omega)]
          rw [g1, g2]
          exact t4 i hi
        · have hR := (a6 q).2.2
          have g1 : ∀ j, mX mr' 15 j = mX mr 15 j := fun j => by unfold mX; rw [r3 15 (by omega) (by omega) (by omega)]
          have g2 : ∀ j, mYy mr' 14 j = mYy mr 14 j := fun j => by unfold mYy; rw [r4 14 (by omega)]
          unfold RE at *
          simp only [fI, g1, g2]
          exact hR
theorem st_on (h : REL tl M c d w im len S m mr) (x : Int32) : StN tl M im len S (f_SC_on N S x m) (f_Mo_on N x mr) := by
  rcases pk_ix x (n := 4) (by omega) with hx | hx | ⟨k, hk, rfl⟩
  · have eC : f_SC_on N S x m = some (0, m) := by unfold f_SC_on; rw [if_pos hx]
    have eR : f_Mo_on N x mr = some (0, mr) := by unfold f_Mo_on; rw [in_lo hx, b1_s, if_pos rfl]
    rw [eC, eR]
    exact StN_same h
  · have hb := i32_big (by omega) hx
    have h3 : f_Mo_in N x 0 3 = some 0 := in_hi (n := 4) (by omega) hx
    have h4 : (4 : Int32) ≤ x := hx
    have eC : f_SC_on N S x m = some (0, m) := by unfold f_SC_on; rw [if_neg hb.1, if_pos h4]
    have eR : f_Mo_on N x mr = some (0, mr) := by unfold f_Mo_on; rw [h3, b1_s, if_pos rfl]
    rw [eC, eR]
    exact StN_same h
  · have h3 : f_Mo_in N (nI k) 0 3 = some 1 := in_ok (n := 4) (by omega) hk
    have hix : ix (nI k) 4 := nI_in hk (by omega)
    have h4 : ¬ (4 : Int32) ≤ nI k := nI_ge (b := 4) hk (by omega)
    have hik := h.2.2.2.1 k hk
    have eC : f_SC_on N S (nI k) m = (if mX m 98 k = 0 then some (0, m) else some (1, vI (vJ m 0 7 (mYy m 99 k)) 0 8 (mX m 100 k))) := by
      unfold f_SC_on
      rw [if_neg (nI_pos (by omega)), if_neg h4]
      simp only [ck_t hix, nI_clamp (show k < 2 ^ 31 by omega)]
    have eR : f_Mo_on N (nI k) mr = (if mX mr 13 k = 0 then some (0, mr) else some (1, vI (vI (vJ mr 0 23 (mYy mr 10 k)) 0 24 (mX mr 11 k)) 0 25 (mX mr 12 k))) := by
      unfold f_Mo_on
      rw [h3, b1_s, if_neg (show ¬ (1 : Int32) = 0 by decide)]
      simp only [ck_t hix, nI_clamp (show k < 2 ^ 31 by omega)]
    rw [eC, eR]
    unfold IMk at hik
    cases ei : im k with
    | none =>
      rw [ei] at hik
      have hik' : mX m 98 k = 0 ∧ mX mr 13 k = 0 := hik
      rw [if_pos hik'.1, if_pos hik'.2]
      exact StN_same h
    | some q =>
      rw [ei] at hik
      have hik' : mX m 98 k = 1 ∧ mX mr 13 k = 1 ∧ NW M q.1 q.2.1 q.2.2 ∧ mYy m 99 k = cs q.1 q.2.1 ∧ mX m 100 k = zOpt q.2.2 ∧ mYy mr 10 k = rz q.1 ∧ mX mr 11 k = nI q.2.1 ∧ mX mr 12 k = zOpt q.2.2 := hik
      obtain ⟨i1, i2, i3, i4, i5, i6, i7, i8⟩ := hik'
      rw [i1, i2, i4, i5, i6, i7, i8, if_neg (show ¬ (1 : Int32) = 0 by decide), if_neg (show ¬ (1 : Int32) = 0 by decide)]
      refine ⟨1, _, _, q.1, q.2.1, q.2.2, rfl, rfl, REL_now h i3 (fun e => ?_) (fun a j hak => ?_) rfl ⟨?_, ?_⟩ (fun a j hak => ?_) rfl ⟨?_, ?_, ?_⟩⟩
      · have := (h.2.2.2.2.2.2 e).2.2.2 k hk
        rw [ei] at this
        cases this
      · show u2 m.1 0 8 (zOpt q.2.2) a j = _
        unfold u2
        rw [if_neg hak]
      · show u2 m.2.1 0 7 (cs q.1 q.2.1) 0 7 = _
        rw [u2_s]
      · show u2 m.1 0 8 (zOpt q.2.2) 0 8 = _
        rw [u2_s]
      · show u2 (u2 mr.1 0 24 (nI q.2.1)) 0 25 (zOpt q.2.2) a j = _
        unfold u2
        rw [if_neg (by omega), if_neg (by omega)]
      · show u2 mr.2.1 0 23 (rz q.1) 0 23 = _
        rw [u2_s]
      · show u2 (u2 mr.1 0 24 (nI q.2.1)) 0 25 (zOpt q.2.2) 0 24 = _
        rw [u2_k _ _ _ _ (by omega), u2_s]
      · show u2 (u2 mr.1 0 24 (nI q.2.1)) 0 25 (zOpt q.2.2) 0 25 = _
        rw [u2_s]
end SMALL4
