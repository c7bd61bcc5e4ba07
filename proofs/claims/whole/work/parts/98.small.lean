/-! SMALL CALLS, and refused ones. -/
theorem in_lo {N : Nat} {x y : Int32} (h : x < 0) : f_Mo_in N x 0 y = some 0 := by unfold f_Mo_in; rw [if_pos h]
theorem i32_big {x : Int32} {n : Nat} (hn : n ≤ 1000) (h : nI n ≤ x) : ¬ x < 0 ∧ nI n - 1 < x ∧ (n : Int) ≤ x.toInt := by
  rw [Int32.le_iff_toInt_le, nI_toInt (by omega)] at h
  rw [Int32.lt_iff_toInt_lt, Int32.lt_iff_toInt_lt]
  have e0 : (0 : Int32).toInt = 0 := by decide
  have e1 : (nI n - 1).toInt = (n : Int) - 1 := by
    have := pk_sub_toInt (a := n) (b := 1) (by omega) (by omega)
    exact this
  omega
theorem in_hi {N : Nat} {x : Int32} {n : Nat} (hn : n ≤ 1000) (h : nI n ≤ x) : f_Mo_in N x 0 (nI n - 1) = some 0 := by
  obtain ⟨h1, h2, _⟩ := i32_big hn h
  unfold f_Mo_in
  rw [if_neg h1, if_pos h2]
theorem in_ok {N n j : Nat} (hn : n ≤ 1000) (h : j < n) : f_Mo_in N (nI j) 0 (nI n - 1) = some 1 := by
  obtain ⟨k, rfl⟩ : ∃ k, n = k + 1 := ⟨n - 1, by omega⟩
  rw [nI_pred]
  unfold f_Mo_in
  rw [if_neg (nI_pos (by omega)), if_neg (nI_nlt (by omega) (by omega))]
theorem eqI {x : Int32} {j : Nat} (hj : j ≤ 1000) (h : x.toInt ≠ (j : Int)) : ¬ x = nI j := by
  intro e
  rw [e, nI_toInt (by omega)] at h
  exact h rfl
section SMALL
variable {N : Nat} {M : Mt} {tl : Bool} {c d : Nat} {w : Option Nat} {im : Nat → Option (Nat × Nat × Option Nat)} {len : Nat} {S : St} {m mr : Mm}
theorem look_or (h : REL tl M c d w im len S m mr) (x : Int32) : (f_SC_canLookAhead N S x m = some 0 ∧ (tl = false ∨ (tl = true ∧ f_Mo_isGoal N x = some 0) ∨ (tl = true ∧ (∃ g, g < 3 ∧ x = nI g) ∧ ∃ s, w = some s))) ∨ (f_SC_canLookAhead N S x m = some 1 ∧ tl = true ∧ w = none ∧ ∃ g, g < 3 ∧ x = nI g) := by
  cases tl with
  | false =>
    refine Or.inl ⟨?_, Or.inl rfl⟩
    unfold f_SC_canLookAhead
    rw [h.2.1.2.2.1, if_pos tf_f]
  | true =>
    rcases goal_or (N := N) x with ⟨g1, g2⟩ | ⟨g, hg, rfl⟩
    · refine Or.inl ⟨?_, Or.inr (Or.inl ⟨rfl, g2⟩)⟩
      unfold f_SC_canLookAhead
      rw [h.2.1.2.2.1, if_neg tft, g1, b1_s, if_pos rfl]
    · cases w with
      | some s =>
        refine Or.inl ⟨?_, Or.inr (Or.inr ⟨rfl, ⟨g, hg, rfl⟩, s, rfl⟩)⟩
        have hs := (h.1.2.2.2.2.2 s rfl).1
        unfold f_SC_canLookAhead
        rw [h.2.1.2.2.1, if_neg tft, tC_isGoal hg, b1_s, if_neg (show ¬ (1 : Int32) = 0 by decide), h.2.1.2.2.2.2, if_neg (show ¬ zOpt (some s) = -1 from nI_m1 (by omega))]
      | none =>
        refine Or.inr ⟨?_, rfl, rfl, g, hg, rfl⟩
        unfold f_SC_canLookAhead
        rw [h.2.1.2.2.1, if_neg tft, tC_isGoal hg, b1_s, if_neg (show ¬ (1 : Int32) = 0 by decide), h.2.1.2.2.2.2, if_pos (show zOpt none = -1 from rfl)]
theorem zs_m1 {s : Nat} (hs : s < 3) : ¬ zOpt (some s) = -1 := nI_m1 (by omega)
theorem st_reached (hN : 1000000 ≤ N) (h : REL tl M c d w im len S m mr) (x : Int32) : StQ tl M c d w im len S (f_SC_reached N S x m) (f_Mo_reached N x mr) := by
  have hD := h.1.1.2.1
  have hd := h.1.2.2.1
  rcases look_or (N := N) h x with ⟨e0, hw⟩ | ⟨e0, rfl, rfl, g, hg, rfl⟩
  · have eC : f_SC_reached N S x m = some (-2147483648, m, S) := by unfold f_SC_reached; rw [e0, b1_s, if_pos rfl]
    have eR : f_Mo_reached N x mr = some (-2147483648, mr) := by
      unfold f_Mo_reached
      rcases hw with rfl | ⟨rfl, g2⟩ | ⟨rfl, ⟨g, hg, rfl⟩, s, rfl⟩
      · rw [h.2.2.1.2.1, if_pos tf_f]
      · rw [h.2.2.1.2.1, if_neg tft, g2, b1_s, if_pos rfl]
      · rw [h.2.2.1.2.1, if_neg tft, tR_isGoal hg, b1_s, if_neg (show ¬ (1 : Int32) = 0 by decide), h.2.2.1.2.2.2.2, if_neg (zs_m1 (h.1.2.2.2.2.2 s rfl).1)]
    rw [eC, eR]
    exact StQ_same h
  · by_cases q : d = qD M
    · subst q
      obtain ⟨hE, hC, hR⟩ := h.2.2.2.2.2.1 rfl
      obtain ⟨m', S', e1, q1⟩ := tC_reached h.1.1 hE hN hg (h.2.1.2.2.1) hC h.2.1.2.2.2 h.1.2
      obtain ⟨mr', e2, r2, p2⟩ := tR_reached h.1.1 hE hN hg h.2.2.1.2.1 h.2.2.1.1 hR h.2.2.1.2.2 h.1.2
      exact StQ_mk h (by omega) e1 e2 q1 p2.pq r2
    · have eC : f_SC_reached N S (nI g) m = some (-2147483648, m, S) := by
        unfold f_SC_reached f_SC_daysToCome
        rw [e0, b1_s, if_neg (show ¬ (1 : Int32) = 0 by decide), h.2.1.2.2.2.1, t_dayOf h.1.2.1.1 (by omega), b1_s, b1_s, h.2.1.2.1.2.1, pk_sub hd, if_neg (nI_nle (by omega) (by omega))]
      have eR : f_Mo_reached N (nI g) mr = some (-2147483648, mr) := by
        unfold f_Mo_reached
        rw [h.2.2.1.2.1, if_neg tft, tR_isGoal hg, b1_s, if_neg (show ¬ (1 : Int32) = 0 by decide), h.2.2.1.2.2.2.2, if_pos (show zOpt none = -1 from rfl), h.2.2.1.2.2.2.1, h.2.2.1.1.2.1, if_neg (fun w => q ((nI_eq (by omega) (by omega)).mp w))]
      rw [eC, eR]
      exact StQ_same h
theorem st_proof (hN : 1000000 ≤ N) (h : REL tl M c d w im len S m mr) (x y : Int32) : StQ tl M c d w im len S (f_SC_proof N S x y m) (f_Mo_proof N x y mr) := by
  have hD := h.1.1.2.1
  have hd := h.1.2.2.1
  rcases look_or (N := N) h x with ⟨e0, hw⟩ | ⟨e0, rfl, rfl, g, hg, rfl⟩
  · have eC : f_SC_proof N S x y m = some (-1, m, S) := by unfold f_SC_proof; rw [e0, b1_s, if_pos rfl]
    have eR : f_Mo_proof N x y mr = some (-1, mr) := by
      unfold f_Mo_proof
      rcases hw with rfl | ⟨rfl, g2⟩ | ⟨rfl, ⟨g, hg, rfl⟩, s, rfl⟩
      · rw [h.2.2.1.2.1, if_pos tf_f]
      · rw [h.2.2.1.2.1, if_neg tft, g2, b1_s, if_pos rfl]
        split <;> rfl
      · rw [h.2.2.1.2.1, if_neg tft, h.2.2.1.2.2.2.2, if_neg (zs_m1 (h.1.2.2.2.2.2 s rfl).1)]
    rw [eC, eR]
    exact StQ_same h
  · have ed : f_SC_daysToCome N S m = some (nI (qD M - d)) := by
      unfold f_SC_daysToCome
      rw [h.2.1.2.2.2.1, t_dayOf h.1.2.1.1 (by omega), b1_s, h.2.1.2.1.2.1, pk_sub hd]
    have eRf : f_Mo_in N y 0 (nI (qD M) - nI d - 1) = some 0 → f_Mo_proof N (nI g) y mr = some (-1, mr) := by
      intro e
      unfold f_Mo_proof
      rw [h.2.2.1.2.1, if_neg tft, h.2.2.1.2.2.2.2, if_pos (show zOpt none = -1 from rfl), tR_isGoal hg, b1_s, if_neg (show ¬ (1 : Int32) = 0 by decide), h.2.2.1.1.2.1, h.2.2.1.2.2.2.1, e, b1_s, if_pos rfl]
    rw [pk_sub hd] at eRf
    rcases pk_ix y (n := qD M - d) (by omega) with hy | hy | ⟨k, hk, rfl⟩
    · have eC : f_SC_proof N S (nI g) y m = some (-1, m, S) := by unfold f_SC_proof; rw [e0, b1_s, if_neg (show ¬ (1 : Int32) = 0 by decide), if_pos hy]
      rw [eC, eRf (in_lo hy)]
      exact StQ_same h
    · obtain ⟨b1', b2', b3'⟩ := i32_big (show qD M - d ≤ 1000 by omega) hy
      have hlt : ¬ y < nI (qD M - d) := by
        rw [Int32.le_iff_toInt_le] at hy
        rw [Int32.lt_iff_toInt_lt]
        omega
      have eC : f_SC_proof N S (nI g) y m = some (-1, m, S) := by unfold f_SC_proof; rw [e0, b1_s, if_neg (show ¬ (1 : Int32) = 0 by decide), if_neg b1', ed, b1_s, if_neg hlt]
      rw [eC, eRf (in_hi (by omega) hy)]
      exact StQ_same h
    · obtain ⟨hE, hC, hR⟩ := h.2.2.2.2.2.1 rfl
      obtain ⟨m', S', e1, q1⟩ := tC_proof h.1.1 hE hN hg (h.2.1.2.2.1) hC h.2.1.2.2.2 h.1.2 hk
      obtain ⟨mr', e2, r2, p2⟩ := tR_proof h.1.1 hE hN hg h.2.2.1.2.1 h.2.2.1.1 hR h.2.2.1.2.2 h.1.2 hk
      exact StQ_mk h (by omega) e1 e2 q1 p2.pq r2
theorem st_judge (hN : 1000000 ≤ N) (h : REL tl M c d w im len S m mr) (x y : Int32) : ∃ r mr', f_SC_judge N S x y m = some r ∧ f_Mo_judge N x y mr = some (r, mr') ∧ REL tl M c d w im len S m mr' := by
  obtain ⟨n, hn, rfl⟩ := wb_of32 x
  obtain ⟨k, hk, rfl⟩ := wb_of32 y
  cases tl with
  | false =>
    refine ⟨9, mr, ?_, ?_, h⟩
    · unfold f_SC_judge
      rw [h.2.1.2.2.1, if_pos tf_f]
    · unfold f_Mo_judge
      rw [h.2.2.1.2.1, if_pos tf_f]
  | true =>
    obtain ⟨hE, hC, hR⟩ := h.2.2.2.2.2.1 rfl
    obtain ⟨mr', e2, p2, r2, _⟩ := tR_judge h.1.1 hN hn hk h.2.2.1.2.1 h.2.2.1.1 hR h.2.2.1.2.2 h.1.2
    exact ⟨_, mr', tC_judge h.1.1 hN hn hk h.2.1.2.2.1 h.2.1.2.1 h.2.1.2.2.2 h.1.2, e2, REL_q (n := 0) h ⟨hC, FrC.refl, Pay.refl⟩ p2 r2⟩
theorem st_heir (hN : 1000000 ≤ N) (h : REL tl M c d w im len S m mr) (x y : Int32) : ∃ r, f_SC_heir N S x y m = some r ∧ f_Mo_heir N x y mr = some r := by
  have hM := h.1.1
  have hH := hM.1
  have hW := h.2.1.2.1
  have hWr := h.2.2.1.1
  have hL := h.1.2.1
  have hd8 : d < 8 := by have := hM.2.1; have := h.1.2.2.1; omega
  have refuse : (f_Mo_in N x 0 (nI (qH M) - 1) = some 0) → f_Mo_heir N x y mr = some (-1) := by
    intro e
    unfold f_Mo_heir f_Mo_isHeir
    rw [hWr.1, e, b1_s, ck_t (Or.inl rfl), b1_s, if_pos rfl]
  cases tl with
  | false =>
    refine ⟨-1, ?_, refuse ?_⟩
    · unfold f_SC_heir
      rw [h.2.1.2.2.1, if_pos tf_f]
    · have h0 := (h.2.2.2.2.2.2 rfl).1
      rcases pk_ix x (n := qH M) (by omega) with hx | hx | ⟨j, hj, rfl⟩
      · exact in_lo hx
      · exact in_hi (by omega) hx
      · omega
  | true =>
    rcases pk_ix x (n := qH M) (by omega) with hx | hx | ⟨j, hj, rfl⟩
    · refine ⟨-1, ?_, refuse (in_lo hx)⟩
      unfold f_SC_heir f_Will_isHeir
      rw [h.2.1.2.2.1, if_neg tft, if_pos hx, b1_s, if_pos rfl]
    · refine ⟨-1, ?_, refuse (in_hi (by omega) hx)⟩
      unfold f_SC_heir f_Will_isHeir
      rw [h.2.1.2.2.1, if_neg tft, if_neg (i32_big (by omega) hx).1, hW.1, if_pos hx, b1_s, if_pos rfl]
    · have eC : ∀ (z : Int32), f_SC_heir N S (nI j) z m = _ := fun z => by
        unfold f_SC_heir
        rw [h.2.1.2.2.1, if_neg tft, tW_isHeir hM hW (by omega), b1_s, if_neg (by simp [hj, tf]), h.2.1.2.2.2.1]
      have eR : ∀ (z : Int32), f_Mo_heir N (nI j) z mr = _ := fun z => by
        unfold f_Mo_heir f_Mo_isHeir
        rw [hWr.1, in_ok (by omega) hj, b1_s, ck_t (Or.inr rfl), b1_s, if_neg (show ¬ (1 : Int32) = 0 by decide), h.2.2.1.2.2.1]
      rw [eC, eR]
      simp only [jn]
      have e13 : ∀ (k : Nat), k < 8 → f_Mo_in N (nI k) 1 3 = some (tf (decide (1 ≤ k) && decide (k ≤ 3))) := fun k hk => tR_in (a := 1) (b := 3) (by omega) (by omega) (by omega)
      have e46 : ∀ (k : Nat), k < 8 → f_Mo_in N (nI k) 4 6 = some (tf (decide (4 ≤ k) && decide (k ≤ 6))) := fun k hk => tR_in (a := 4) (b := 6) (by omega) (by omega) (by omega)
      have other : (y < 0 ∨ nI 8 ≤ y) → ∃ r, (if y = 0 then b1 (f_State_isThere N (cs c d) (nI j)) fun r13 => (if r13 = 0 then some 0 else some 1) else (if y < 1 then (if y < 4 then (if y = 7 then b1 (f_Will_valueOf N S 10 (nI j) (cs c d) (nI j) m) fun r6 => some r6 else some (-1)) else (if 6 < y then (if y = 7 then b1 (f_Will_valueOf N S 10 (nI j) (cs c d) (nI j) m) fun r6 => some r6 else some (-1)) else b1 (f_State_amount N (cs c d) (y - 4) (nI j)) fun r9 => some r9)) else (if 3 < y then (if y < 4 then (if y = 7 then b1 (f_Will_valueOf N S 10 (nI j) (cs c d) (nI j) m) fun r6 => some r6 else some (-1)) else (if 6 < y then (if y = 7 then b1 (f_Will_valueOf N S 10 (nI j) (cs c d) (nI j) m) fun r6 => some r6 else some (-1)) else b1 (f_State_amount N (cs c d) (y - 4) (nI j)) fun r9 => some r9)) else b1 (f_Will_worth N S 10 (nI j) (y - 1) m) fun r12 => some r12))) = some r ∧ (if y = 0 then b1 (f_Mo_hasCome N (rz c) (nI j)) fun r12 => (if r12 = 0 then some 0 else some 1) else b1 (f_Mo_in N y 1 3) fun r4 => (if r4 = 0 then b1 (f_Mo_in N y 4 6) fun r6 => (if r6 = 0 then (if y = 7 then b1 (f_Mo_worthTo N (rz c) (nI j) (nI j) mr) fun r9 => some r9 else some (-1)) else b1 (f_Mo_things N (rz c) (nI j) (y - 4)) fun r10 => some r10) else ck (ix (3 * nI j + y - 1) 9) (some (mX mr 7 (3 * nI j + y - 1).toNatClampNeg)))) = some r := by
        intro hy
        have ey : y.toInt < 0 ∨ 8 ≤ y.toInt := by
          rcases hy with hy | hy
          · rw [Int32.lt_iff_toInt_lt] at hy
            exact Or.inl hy
          · rw [Int32.le_iff_toInt_le, nI_toInt (by omega)] at hy
            exact Or.inr hy
        have t0 : (0 : Int32).toInt = 0 := by decide
        have t1 : (1 : Int32).toInt = 1 := by decide
        have t3 : (3 : Int32).toInt = 3 := by decide
        have t4 : (4 : Int32).toInt = 4 := by decide
        have t6 : (6 : Int32).toInt = 6 := by decide
        have n0 : ¬ y = 0 := eqI (j := 0) (by omega) (by omega)
        have n7 : ¬ y = 7 := eqI (j := 7) (by omega) (by omega)
        refine ⟨-1, ?_, ?_⟩
        · rw [if_neg n0]
          simp only [Int32.lt_iff_toInt_lt, t1, t3, t4, t6, if_neg n7]
          rcases ey with ey | ey
          · rw [if_pos (by omega), if_pos (by omega)]
          · rw [if_neg (by omega), if_pos (by omega), if_neg (by omega), if_pos (by omega)]
        · have i1 : f_Mo_in N y 1 3 = some 0 := by
            unfold f_Mo_in
            simp only [Int32.lt_iff_toInt_lt, t1, t3]
            rcases ey with ey | ey
            · rw [if_pos (by omega)]
            · rw [if_neg (by omega), if_pos (by omega)]
          have i2 : f_Mo_in N y 4 6 = some 0 := by
            unfold f_Mo_in
            simp only [Int32.lt_iff_toInt_lt, t4, t6]
            rcases ey with ey | ey
            · rw [if_pos (by omega)]
            · rw [if_neg (by omega), if_pos (by omega)]
          rw [if_neg n0, i1, b1_s, if_pos rfl, i2, b1_s, if_pos rfl, if_neg n7]
      rcases pk_ix y (n := 8) (by omega) with hy | hy | ⟨k, hk, rfl⟩
      · exact other (Or.inl hy)
      · exact other (Or.inr hy)
      · by_cases k0 : k = 0
        · subst k0
          rw [if_pos (show nI 0 = 0 from rfl), if_pos (show nI 0 = 0 from rfl), t_isThere hL.1 hd8 (by omega), t_MhasCome (by omega), b1_s]
          cases cb c j <;> exact ⟨_, rfl, rfl⟩
        · rw [if_neg (show ¬ nI k = 0 from nI_ne0 (by omega) (by omega)), if_neg (show ¬ nI k = 0 from nI_ne0 (by omega) (by omega)), e13 k hk, b1_s, e46 k hk, if_neg (show ¬ nI k < 1 from nI_nlt (b := 1) (by omega) (by omega))]
          by_cases k3 : k ≤ 3
          · obtain ⟨q, rfl⟩ : ∃ q, k = q + 1 := ⟨k - 1, by omega⟩
            refine ⟨nI (qW M j q), ?_, ?_⟩
            · rw [if_neg (show ¬ (3 : Int32) < nI (q + 1) from nI_nlt (a := 3) (by omega) (by omega)), nI_pred, tW_worth hM hW hj (by omega), b1_s]
            · rw [if_neg (by simp [k3, tf]), r_ix3, show 3 * j + (q + 1) = (3 * j + q) + 1 by omega, nI_pred, ck_t (nI_in (by omega) (by omega)), nI_clamp (by omega), hWr.2.2.2.2.1 j q hj (by omega)]
          · have u3 : (3 : Int32) < nI k := nI_lt (a := 3) (by omega) (by omega)
            have u4 : ¬ nI k < 4 := nI_nlt (b := 4) (by omega) (by omega)
            have v3 : tf (decide (1 ≤ k) && decide (k ≤ 3)) = 0 := by simp [k3, tf]
            by_cases k6 : k ≤ 6
            · obtain ⟨q, rfl⟩ : ∃ q, k = q + 4 := ⟨k - 4, by omega⟩
              have e4 : nI (q + 4) - 4 = nI q := by
                have := pk_sub (a := q + 4) (b := 4) (by omega)
                rw [Nat.add_sub_cancel] at this
                exact this
              have u6 : ¬ (6 : Int32) < nI (q + 4) := nI_nlt (a := 6) (by omega) (by omega)
              have v6 : ¬ tf (decide (4 ≤ q + 4) && decide (q + 4 ≤ 6)) = 0 := by simp [k6, tf]
              refine ⟨nI (am c q j), ?_, ?_⟩
              · rw [if_pos u3, if_neg u4, if_neg u6, e4, t_amount hL.1 hd8 (by omega) (by omega), b1_s]
              · rw [if_pos v3, b1_s, if_neg v6, e4, t_Mthings (by omega) (by omega), b1_s]
            · have k7 : k = 7 := by omega
              subst k7
              have u6 : (6 : Int32) < nI 7 := nI_lt (a := 6) (by omega) (by omega)
              have v6 : tf (decide (4 ≤ 7) && decide (7 ≤ 6)) = 0 := by decide
              refine ⟨nI (wv M c j j), ?_, ?_⟩
              · rw [if_pos u3, if_neg u4, if_pos u6, if_pos (show nI 7 = 7 from rfl), tW_value hM hW (by omega) hL.1 hd8 hj (by omega), b1_s]
              · rw [if_pos v3, b1_s, if_pos v6, if_pos (show nI 7 = 7 from rfl), tR_worthTo hM hWr (by omega) hj (by omega), b1_s]
end SMALL
