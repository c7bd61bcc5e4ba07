/-! SMALL CALLS: alt, come, image, on. -/
section SMALL3
variable {N : Nat} {M : Mt} {tl : Bool} {c d : Nat} {w : Option Nat} {im : Nat → Option (Nat × Nat × Option Nat)} {len : Nat} {S : St} {m mr : Mm}
/-- a day and an alt of it, or none such -/
theorem alt_or (hM : qOk M) (hW : CW m 10 M) (hWr : RW mr M) (x y : Int32) : (f_Will_isAlt N S 10 x y m = some 0 ∧ (f_Mo_in N x 0 (nI (qD M) - 1) = some 0 ∨ ∃ e, e < qD M ∧ x = nI e ∧ f_Mo_in N y 0 (nI (qA M e) - 1) = some 0)) ∨ ∃ e a, e < qD M ∧ a < qA M e ∧ x = nI e ∧ y = nI a ∧ f_Will_isAlt N S 10 x y m = some 1 := by
  have hD := hM.2.1
  rcases pk_ix x (n := qD M) (by omega) with hx | hx | ⟨e, he, rfl⟩
  · refine Or.inl ⟨?_, Or.inl (in_lo hx)⟩
    unfold f_Will_isAlt
    rw [if_pos hx]
  · refine Or.inl ⟨?_, Or.inl (in_hi (by omega) hx)⟩
    unfold f_Will_isAlt
    rw [if_neg (i32_big (by omega) hx).1, hW.2.1, if_pos hx]
  · have hA := hM.2.2.2.2.2.2.1 e he
    rcases pk_ix y (n := qA M e) (by omega) with hy | hy | ⟨a, ha, rfl⟩
    · refine Or.inl ⟨?_, Or.inr ⟨e, he, rfl, in_lo hy⟩⟩
      unfold f_Will_isAlt
      rw [if_neg (nI_pos (by omega)), hW.2.1, if_neg (nI_ge he (by omega)), if_pos hy]
    · refine Or.inl ⟨?_, Or.inr ⟨e, he, rfl, in_hi (by omega) hy⟩⟩
      unfold f_Will_isAlt
      rw [if_neg (nI_pos (by omega)), hW.2.1, if_neg (nI_ge he (by omega)), if_neg (i32_big (by omega) hy).1, ck_t (nI_in (by omega) (by omega)), nI_clamp (by omega), hW.2.2.2.2.2.2.1 e he, if_pos hy]
    · refine Or.inr ⟨e, a, he, ha, rfl, rfl, ?_⟩
      rw [tW_isAlt hM hW (by omega) (by omega)]
      simp [he, ha, tf]
theorem st_alt (h : REL tl M c d w im len S m mr) (x y z : Int32) : ∃ r, f_SC_alt N S x y z m = some r ∧ f_Mo_alt N x y z mr = some r := by
  have hM := h.1.1
  have hD := hM.2.1
  have hW := h.2.1.2.1
  have hWr := h.2.2.1.1
  cases tl with
  | false =>
    refine ⟨-1, ?_, ?_⟩
    · unfold f_SC_alt
      rw [h.2.1.2.2.1, if_pos tf_f]
    · unfold f_Mo_alt
      rw [h.2.2.1.2.1, if_pos tf_f]
  | true =>
    rcases alt_or (N := N) (S := S) hM hW hWr x y with ⟨e1, hr⟩ | ⟨e, a, he, ha, rfl, rfl, e1⟩
    · refine ⟨-1, ?_, ?_⟩
      · unfold f_SC_alt
        rw [h.2.1.2.2.1, if_neg tft, e1, b1_s, if_pos rfl]
      · unfold f_Mo_alt
        rw [h.2.2.1.2.1, if_neg tft, hWr.2.1]
        rcases hr with hr | ⟨e, he, rfl, hr⟩
        · rw [hr, b1_s, if_pos rfl]
        · rw [in_ok (by omega) he, b1_s, if_neg (show ¬ (1 : Int32) = 0 by decide), ck_t (nI_in (show e < 6 by omega) (by omega)), nI_clamp (by omega), hWr.2.2.2.2.2.1 e he, hr, b1_s, if_pos rfl]
    · have hA := hM.2.2.2.2.2.2.1 e he
      have eR : f_Mo_alt N (nI e) (nI a) z mr = b1 (f_Mo_in N z 0 2) fun r7 => (if r7 = 0 then some (-1) else b1 (f_Mo_altOf N (nI e) (nI a) z mr) fun r9 => some r9) := by
        unfold f_Mo_alt
        rw [h.2.2.1.2.1, if_neg tft, hWr.2.1, in_ok (by omega) he, b1_s, if_neg (show ¬ (1 : Int32) = 0 by decide), ck_t (nI_in (show e < 6 by omega) (by omega)), nI_clamp (by omega), hWr.2.2.2.2.2.1 e he, in_ok (by omega) ha, b1_s, if_neg (show ¬ (1 : Int32) = 0 by decide)]
      have eC : f_SC_alt N S (nI e) (nI a) z m = (if z = 0 then b1 (f_Will_chance N S 10 (nI e) (nI a) m) fun r4 => some r4 else (if z = 1 then b1 (f_Will_kind N S 10 (nI e) (nI a) m) fun r5 => some r5 else (if z = 2 then b1 (f_Will_target N S 10 (nI e) (nI a) m) fun r6 => some r6 else some ((-1))))) := by
        unfold f_SC_alt
        rw [h.2.1.2.2.1, if_neg tft, e1, b1_s, if_neg (show ¬ (1 : Int32) = 0 by decide)]
      rw [eC, eR]
      rcases pk_ix z (n := 3) (by omega) with hz | hz | ⟨k, hk, rfl⟩
      · have hz' := hz
        rw [Int32.lt_iff_toInt_lt] at hz'
        have t0 : (0 : Int32).toInt = 0 := by decide
        refine ⟨-1, ?_, ?_⟩
        · rw [if_neg (show ¬ z = 0 from eqI (j := 0) (by omega) (by omega)), if_neg (show ¬ z = 1 from eqI (j := 1) (by omega) (by omega)), if_neg (show ¬ z = 2 from eqI (j := 2) (by omega) (by omega))]
        · rw [in_lo hz, b1_s, if_pos rfl]
      · have hb := (i32_big (by omega) hz).2.2
        have h2 : f_Mo_in N z 0 2 = some 0 := in_hi (n := 3) (by omega) hz
        refine ⟨-1, ?_, ?_⟩
        · rw [if_neg (show ¬ z = 0 from eqI (j := 0) (by omega) (by omega)), if_neg (show ¬ z = 1 from eqI (j := 1) (by omega) (by omega)), if_neg (show ¬ z = 2 from eqI (j := 2) (by omega) (by omega))]
        · rw [h2, b1_s, if_pos rfl]
      · have h2 : f_Mo_in N (nI k) 0 2 = some 1 := in_ok (n := 3) (by omega) hk
        rw [h2, b1_s, if_neg (show ¬ (1 : Int32) = 0 by decide)]
        rcases (by omega : k = 0 ∨ k = 1 ∨ k = 2) with rfl | rfl | rfl
        · exact ⟨nI (qC M e a), by rw [if_pos (show nI 0 = 0 from rfl), tW_chance hM hW he ha, b1_s], by rw [show nI 0 = 0 from rfl, tR_alt0 hM hWr he ha, b1_s]⟩
        · exact ⟨nI (qK M e a), by rw [if_neg (show ¬ nI 1 = 0 by decide), if_pos (show nI 1 = 1 from rfl), tW_kind hM hW he ha, b1_s], by rw [show nI 1 = 1 from rfl, tR_alt1 hM hWr he ha, b1_s]⟩
        · exact ⟨qT M e a, by rw [if_neg (show ¬ nI 2 = 0 by decide), if_neg (show ¬ nI 2 = 1 by decide), if_pos (show nI 2 = 2 from rfl), tW_target hM hW he ha, b1_s], by rw [show nI 2 = 2 from rfl, tR_alt2 hM hWr he ha, b1_s]⟩
theorem st_come (h : REL tl M c d w im len S m mr) (x : Int32) : StN tl M im len S (f_SC_come N S x m) (f_Mo_come N x mr) := by
  have hM := h.1.1
  have hD := hM.2.1
  have hd := h.1.2.2.1
  have hL := h.1.2.1
  have hW := h.2.1.2.1
  have hWr := h.2.2.1.1
  have e0 : f_State_dayOf N (mJ m 0 7) = some (nI d) := by rw [h.2.1.2.2.2.1]; exact t_dayOf hL.1 (by omega)
  cases tl with
  | false =>
    have eC : f_SC_come N S x m = some (-1, m) := by unfold f_SC_come; rw [e0, b1_s, h.2.1.2.2.1, if_pos tf_f]
    have eR : f_Mo_come N x mr = some (-1, mr) := by unfold f_Mo_come; rw [h.2.2.1.2.1, if_pos tf_f]
    rw [eC, eR]
    exact StN_same h
  | true =>
    cases w with
    | some s =>
      have hs := (h.1.2.2.2.2.2 s rfl).1
      have eC : f_SC_come N S x m = some (-1, m) := by unfold f_SC_come; rw [e0, b1_s, h.2.1.2.2.1, if_neg tft, h.2.1.2.2.2.2, if_neg (zs_m1 hs)]
      have eR : f_Mo_come N x mr = some (-1, mr) := by unfold f_Mo_come; rw [h.2.2.1.2.1, if_neg tft, h.2.2.1.2.2.2.2, if_neg (zs_m1 hs)]
      rw [eC, eR]
      exact StN_same h
    | none =>
      have no : f_Will_isAlt N S 10 (nI d) x m = some 0 → (d = qD M ∨ d < qD M ∧ f_Mo_in N x 0 (nI (qA M d) - 1) = some 0) → StN true M im len S (f_SC_come N S x m) (f_Mo_come N x mr) := by
        intro e1 e2
        have eC : f_SC_come N S x m = some (-1, m) := by unfold f_SC_come; rw [e0, b1_s, h.2.1.2.2.1, if_neg tft, h.2.1.2.2.2.2, if_pos (show zOpt none = -1 from rfl), e1, b1_s, if_pos rfl]
        have eR : f_Mo_come N x mr = some (-1, mr) := by
          unfold f_Mo_come
          rw [h.2.2.1.2.1, if_neg tft, h.2.2.1.2.2.2.2, if_pos (show zOpt none = -1 from rfl), h.2.2.1.2.2.2.1, hWr.2.1]
          rcases e2 with e2 | ⟨e2, e3⟩
          · rw [e2, if_pos rfl]
          · rw [if_neg (fun q => by have := (nI_eq (by omega) (by omega)).mp q; omega), ck_t (nI_in (by omega) (by omega)), nI_clamp (by omega), hWr.2.2.2.2.2.1 d e2, e3, b1_s, if_pos rfl]
        rw [eC, eR]
        exact StN_same h
      by_cases hdD : d = qD M
      · refine no ?_ (Or.inl hdD)
        unfold f_Will_isAlt
        rw [if_neg (nI_pos (by omega)), hW.2.1, if_pos (nI_le (by omega) (by omega))]
      · have hlt : d < qD M := by omega
        rcases alt_or (N := N) (S := S) hM hW hWr (nI d) x with ⟨e1, hr⟩ | ⟨e, a, he, ha, ee, rfl, e1⟩
        · refine no e1 (Or.inr ⟨hlt, ?_⟩)
          rcases hr with hr | ⟨e, he, ee, hr⟩
          · rw [in_ok (by omega) hlt] at hr
            exact absurd (Option.some.inj hr) (by decide)
          · have : d = e := (nI_eq (by omega) (by omega)).mp ee
            rw [this]
            exact hr
        · have hde : d = e := (nI_eq (by omega) (by omega)).mp ee
          subst hde
          have hA := hM.2.2.2.2.2.2.1 d he
          have hq := hM.2.2.2.2.2.2.2 d a he ha
          have hH := hM.1
          have hpas : Ds M (qO M) (d + 1) (pas M c d a) := Ds_pas hM ⟨hL, h.1.2.2.2.2.1, h.1.2.2.2.1⟩ he ha
          have htt : tt (pas M c d a) ≤ d := by
            unfold pas
            split
            · next q => rw [(Lg_cme hM hL (hq.2.2.2 q)).2.1]; exact h.1.2.2.2.2.1
            · exact h.1.2.2.2.2.1
          have hnw : NW M (pas M c d a) (d + 1) (if qK M d a = 0 then some (qG M d a) else none) := by
            refine ⟨hpas.1, by omega, hpas.2.2, hpas.2.1, fun s hs => ?_⟩
            split at hs
            · next q =>
              have : qG M d a = s := Option.some.inj hs
              rw [← this]
              exact ⟨hq.2.2.1 q, by omega⟩
            · cases hs
          have ez : qS M d a = zOpt (if qK M d a = 0 then some (qG M d a) else none) := by
            unfold qS
            split <;> rfl
          have eC : f_SC_come N S (nI a) m = some (nI (d + 1), vJ (vI m 0 8 (qS M d a)) 0 7 (cs (pas M c d a) (d + 1))) := by
            have hW' : CW (vI m 0 8 (qS M d a)) 10 M := CW_f (m := m) (fun k => by show u2 m.1 0 8 (qS M d a) 10 k = _; rw [u2_a _ _ _ _ (by omega)]) (fun _ _ => rfl) hW
            unfold f_SC_come
            rw [e0, b1_s, h.2.1.2.2.1, if_neg tft, h.2.1.2.2.2.2, if_pos (show zOpt none = -1 from rfl), e1, b1_s, if_neg (show ¬ (1 : Int32) = 0 by decide), tW_thing hM hW he ha, b1_s, h.2.1.2.2.2.1, tW_passed hM hW' hL.1 he ha, b1_s, t_dayOf hpas.1.1 (by omega), b1_s]
          have eR : ∃ mr', f_Mo_come N (nI a) mr = some (nI (d + 1), mr') ∧ (∀ a k, ¬ (a = 0 ∧ (k = 24 ∨ k = 25)) → mr'.1 a k = mr.1 a k) ∧ mr'.2.2 = mr.2.2 ∧ RNw mr' (pas M c d a) (d + 1) (if qK M d a = 0 then some (qG M d a) else none) := by
            unfold f_Mo_come
            rw [h.2.2.1.2.1, if_neg tft, h.2.2.1.2.2.2.2, if_pos (show zOpt none = -1 from rfl), h.2.2.1.2.2.2.1, hWr.2.1, if_neg (fun q => by have := (nI_eq (by omega) (by omega)).mp q; omega), ck_t (nI_in (by omega) (by omega)), nI_clamp (by omega), hWr.2.2.2.2.2.1 d he, in_ok (by omega) ha, b1_s, if_neg (show ¬ (1 : Int32) = 0 by decide), tR_alt1 hM hWr he ha, b1_s]
            simp only [jn]
            by_cases k0 : qK M d a = 0
            · have ep : pas M c d a = c := by unfold pas; rw [if_neg (by omega)]
              have eqT : qT M d a = nI (qG M d a) := by unfold qT; rw [if_neg (by omega)]
              have e24 : mI (vI mr 0 25 (nI (qG M d a))) 0 24 = nI d := by
                show u2 mr.1 0 25 (nI (qG M d a)) 0 24 = _
                rw [u2_k _ _ _ _ (by omega)]
                exact h.2.2.1.2.2.2.1
              refine ⟨vI (vI mr 0 25 (nI (qG M d a))) 0 24 (nI (d + 1)), ?_, fun a' k hak => ?_, rfl, ?_, ?_, ?_⟩
              · rw [if_pos ((nI_k0 hq.2.1).mpr k0), tR_alt2 hM hWr he ha, b1_s, if_neg (fun q => by have := (nI_k1 hq.2.1).mp q; omega), eqT, e24, nI_1]
              · show u2 (u2 mr.1 0 25 (nI (qG M d a))) 0 24 (nI (d + 1)) a' k = _
                unfold u2
                rw [if_neg (by omega), if_neg (by omega)]
              · rw [ep]
                exact h.2.2.1.2.2.1
              · show u2 (u2 mr.1 0 25 (nI (qG M d a))) 0 24 (nI (d + 1)) 0 24 = _
                rw [u2_s]
              · rw [if_pos k0]
                show u2 (u2 mr.1 0 25 (nI (qG M d a))) 0 24 (nI (d + 1)) 0 25 = _
                rw [u2_k _ _ _ _ (by omega), u2_s]
                rfl
            · have hz : ¬ nI (qK M d a) = 0 := fun q => k0 ((nI_k0 hq.2.1).mp q)
              rw [if_neg hz, if_neg k0]
              by_cases k1 : qK M d a = 1
              · have hg := hq.2.2.2 k1
                have er : mJ mr 0 23 ||| lsl 1 (36 + qT M d a) = rz (pas M c d a) := by
                  rw [h.2.2.1.2.2.1]
                  unfold qT pas
                  rw [if_neg (by omega), if_pos k1, show (36 : Int32) + nI (qG M d a) = nI (36 + qG M d a) from by rw [show (36 : Int32) = nI 36 from rfl, nI_add], show (1 : Int64) = lN 1 from rfl, lsl_n 1 (by omega), Nat.one_mul, rz_or (by omega)]
                have e24 : mI (vJ mr 0 23 (rz (pas M c d a))) 0 24 = nI d := h.2.2.1.2.2.2.1
                refine ⟨vI (vJ mr 0 23 (rz (pas M c d a))) 0 24 (nI (d + 1)), ?_, fun a' k hak => ?_, rfl, ?_, ?_, ?_⟩
                · rw [if_pos ((nI_k1 hq.2.1).mpr k1), h.2.2.1.2.2.2.1, tR_alt2 hM hWr he ha, b1_s, er, e24, nI_1]
                · show u2 mr.1 0 24 (nI (d + 1)) a' k = _
                  unfold u2
                  rw [if_neg (by omega)]
                · show u2 mr.2.1 0 23 (rz (pas M c d a)) 0 23 = _
                  rw [u2_s]
                · show u2 mr.1 0 24 (nI (d + 1)) 0 24 = _
                  rw [u2_s]
                · show u2 mr.1 0 24 (nI (d + 1)) 0 25 = _
                  rw [u2_k _ _ _ _ (by omega)]
                  exact h.2.2.1.2.2.2.2
              · have ep : pas M c d a = c := by unfold pas; rw [if_neg k1]
                refine ⟨vI mr 0 24 (nI (d + 1)), ?_, fun a' k hak => ?_, rfl, ?_, ?_, ?_⟩
                · rw [if_neg (fun q => k1 ((nI_k1 hq.2.1).mp q)), h.2.2.1.2.2.2.1, nI_1]
                · show u2 mr.1 0 24 (nI (d + 1)) a' k = _
                  unfold u2
                  rw [if_neg (by omega)]
                · rw [ep]
                  exact h.2.2.1.2.2.1
                · show u2 mr.1 0 24 (nI (d + 1)) 0 24 = _
                  rw [u2_s]
                · show u2 mr.1 0 24 (nI (d + 1)) 0 25 = _
                  rw [u2_k _ _ _ _ (by omega)]
                  exact h.2.2.1.2.2.2.2
          obtain ⟨mr', eR, r1, r2, r3⟩ := eR
          refine ⟨_, _, mr', _, _, _, eC, eR, REL_now h hnw (fun q => by cases q) (fun a' k hak => ?_) rfl ⟨?_, ?_⟩ r1 r2 r3⟩
          · show u2 m.1 0 8 (qS M d a) a' k = _
            unfold u2
            rw [if_neg hak]
          · show u2 m.2.1 0 7 (cs (pas M c d a) (d + 1)) 0 7 = _
            rw [u2_s]
          · show u2 m.1 0 8 (qS M d a) 0 8 = _
            rw [u2_s, ez]
end SMALL3
