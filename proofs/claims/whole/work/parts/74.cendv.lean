/-! The Ends' value, whole. -/
section CENDV
variable {N : Nat} {S : St} {M : Mt}
theorem tE_taken (hM : qOk M) (hE : qE M) (hN : 100 ≤ N) {rec : Nat → Int64 → Mm → Option (Int64 × Mm)} {q : Nat} (hr : RecE N S M rec q) {g b c d : Nat} {m : Mm} (x0 : Nat) (hg : g < 3) (hb : b < 3) (hq : b < q) (hL : Lg M c) (hd : d < 8) (he : Env S m M) (ht : ∀ b', b' ≤ b → TE M S m g b') (hh : hl c = 0) : ∃ m', fM_Ends_bestTakenBack N S rec x0 (cs c d) (33 + 3 * (3 * g + b)) m = some (lz (gE M g (b + 1) c), m') ∧ Gd M S m m' := by
  have hH := hM.1
  unfold fM_Ends_bestTakenBack
  obtain ⟨m0, r1, r2⟩ := hr g b c d m hg hb (by omega) hL hd he ht
  rw [r1, b2_s]
  have inner : ∀ (s : Nat), s < 3 → ∀ (K : Int64 → Int32 → Mm → Option (Int64 × Mm)) (x : Int) (m1 : Mm), Gd M S m m1 → isG (PB M g b c s 0) x → ∃ a : Int × Mm, (Gd M S m a.2 ∧ isG (PB M g b c (s + 1) 0) a.1) ∧ f_Ends_bestTakenBack_L19 N S rec x0 (cs c d) (33 + 3 * (3 * g + b)) (nI s) K N (lz x) 0 m1 = K (lz a.1) (nI (qH M)) a.2 := by
    intro s hs K x m1 hG1 hx
    obtain ⟨a, ⟨hG, hP⟩, e⟩ := loopE (fun n (a : Int × Mm) j => f_Ends_bestTakenBack_L19 N S rec x0 (cs c d) (33 + 3 * (3 * g + b)) (nI s) K n (lz a.1) (nI j) a.2) (fun a j => Gd M S m a.2 ∧ isG (PB M g b c s j) a.1) (qH M) (fun a => K (lz a.1) (nI (qH M)) a.2) (fun n a j hj hI => by
      show ∃ a', _ ∧ f_Ends_bestTakenBack_L19 N S rec x0 (cs c d) (33 + 3 * (3 * g + b)) (nI s) K (n + 1) (lz a.1) (nI j) a.2 = _
      have he' := hI.1.env he
      have h8 := am_lt c s j
      rw [f_Ends_bestTakenBack_L19, he'.1.1, if_neg (nI_ge hj (by omega)), t_amount hL.1 hd hs (by omega), b1_s]
      by_cases h0 : am c s j = 0
      · refine ⟨a, ⟨hI.1, PB_no h0 hI.2⟩, ?_⟩
        rw [if_pos (show nI (am c s j) ≤ 0 from nI_le (b := 0) (by omega) (by omega)), nI_1]
      · obtain ⟨m2, e1, e2⟩ := tE_moved hM hE hN hr x0 hg hb hq hL hd he' (fun b' hb' => hI.1.2.2.2.2.1 g b' hg (by omega) (ht b' hb')) hh hs (show j < 3 by omega) (show 0 < am c s j by omega)
        obtain ⟨y, e3, e4⟩ := PB_yes hM hE hL hs (show j < 3 by omega) (show 0 < am c s j by omega) hI.2
        refine ⟨(y, m2), ⟨hI.1.trans e2, e4⟩, ?_⟩
        rw [if_neg (nI_nle (by omega) (by omega)), e1, b2_s, nI_1, e3]) (fun n a hI => by
      show f_Ends_bestTakenBack_L19 N S rec x0 (cs c d) (33 + 3 * (3 * g + b)) (nI s) K (n + 1) (lz a.1) (nI (qH M)) a.2 = _
      rw [f_Ends_bestTakenBack_L19, (hI.1.env he).1.1, if_pos (nI_le (Nat.le_refl _) (by omega))]) (qH M) N (x, m1) 0 (by omega) (by omega) ⟨hG1, hx⟩
    exact ⟨a, ⟨hG, PB_row hL hP⟩, e⟩
  obtain ⟨a, ⟨hG, hP⟩, e⟩ := loopE (fun n (a : Int × Mm) j => f_Ends_bestTakenBack_L10 N S rec x0 (cs c d) (33 + 3 * (3 * g + b)) (fun (z13_4 : Int64) (z13_6 : Int32) (m13 : Mm) => some (z13_4, m13)) n (lz a.1) (nI j) a.2) (fun a j => Gd M S m a.2 ∧ isG (PB M g b c j 0) a.1) 3 (fun a => some (lz a.1, a.2)) (fun n a j hj hI => by
    show ∃ a', _ ∧ f_Ends_bestTakenBack_L10 N S rec x0 (cs c d) (33 + 3 * (3 * g + b)) _ (n + 1) (lz a.1) (nI j) a.2 = _
    rw [f_Ends_bestTakenBack_L10, if_neg (n3nle hj)]
    obtain ⟨a', h1, h2⟩ := inner j hj (fun (z7_4 : Int64) (z7_7 : Int32) (m7 : Mm) => f_Ends_bestTakenBack_L10 N S rec x0 (cs c d) (33 + 3 * (3 * g + b)) (fun (z13_4 : Int64) (z13_6 : Int32) (m13 : Mm) => some (z13_4, m13)) n z7_4 ((nI j + 1)) m7) a.1 a.2 hI.1 hI.2
    refine ⟨a', h1, ?_⟩
    rw [h2, nI_1]) (fun n a hI => by
    show f_Ends_bestTakenBack_L10 N S rec x0 (cs c d) (33 + 3 * (3 * g + b)) _ (n + 1) (lz a.1) (nI 3) a.2 = _
    rw [f_Ends_bestTakenBack_L10, if_pos n3le]) 3 N (gE M g b c, m0) 0 (by omega) (by omega) ⟨r2, isG_c (fun w => ⟨fun hw => Or.inl hw, fun hw => by
      rcases hw with hw | ⟨s', f', t, a1, a2, a3, a4, a5, a6, a7, a8⟩
      · exact hw
      · omega⟩) (gE_is hM hE hL)⟩
  refine ⟨a.2, ?_, hG⟩
  have : a.1 = gE M g (b + 1) c := by
    refine isG_u (isG_c (fun w => ?_) hP) (gE_is hM hE hL)
    rw [EV_s hL.2.2.2.2 hh]
    constructor
    · rintro (hw | ⟨s', f', t, a1, a2, a3, a4, a5, a6, a7, a8⟩)
      · exact Or.inl hw
      · exact Or.inr ⟨s', f', t, a1, a2, a3, a4, a5, a6, a7⟩
    · rintro (hw | ⟨s', f', t, a1, a2, a3, a4, a5, a6, a7⟩)
      · exact Or.inl hw
      · exact Or.inr ⟨s', f', t, a1, a2, a3, a4, a5, a6, a7, Or.inl a1⟩
  rw [this] at e
  exact e
theorem gE_0 (hM : qOk M) (hE : qE M) {g c : Nat} (hL : Lg M c) (h : hl c = 0) : gE M g 0 c = gz M g c := by
  have := (gE_is hM hE (g := g) (b := 0) hL).1
  exact (EV_0 h _).mp this
theorem tE_find (hM : qOk M) (hE : qE M) (hN : 100 ≤ N) {rec : Nat → Int64 → Mm → Option (Int64 × Mm)} {q : Nat} (hr : RecE N S M rec q) {g b c d : Nat} {m : Mm} (hg : g < 3) (hb : b < 3) (hq : hl c + b < q + 1) (hL : Lg M c) (hd : d < 8) (he : Env S m M) (ht : ∀ b', b' ≤ b → TE M S m g b') : ∃ m', fM_Ends_find N S rec (33 + 3 * (3 * g + b)) (cs c d) m = some (lz (gE M g b c), m') ∧ Gd M S m m' := by
  unfold fM_Ends_find
  rw [t_firstHeld2 (by omega) hL.1 hd, b1_s]
  by_cases hh : 0 < hl c
  · have h3 := hs_lt c
    obtain ⟨m1, e1, e2⟩ := tE_handed hM hE hN hr hg hb hq hL hd he ht hh
    refine ⟨m1, ?_, e2⟩
    rw [if_pos hh, if_neg (nI_m1 (by omega)), e1, b2_s]
  · have h0 : hl c = 0 := by omega
    rw [if_neg hh, if_pos rfl, he.2.2.2.2.2.2 (3 * g + b) (by omega)]
    have hgo := he.2.2.2.1.1 (3 * g + b) (by omega)
    rw [show (3 * g + b) / 3 = g by omega] at hgo
    rw [show (3 * g + b) % 3 = b by omega]
    by_cases b0 : b = 0
    · subst b0
      refine ⟨m, ?_, Gd.refl⟩
      have hz : gE M g 0 c = (gv M g c).toInt := gE_0 hM hE hL h0
      rw [if_pos rfl]
      show (if (mI m (33 + 3 * (3 * g + 0)) 3) = 0 then _ else _) = _
      rw [hgo, hz, ← lz_32]
      unfold gv
      by_cases g0 : g = 0
      · subst g0
        rw [if_pos (show nI 0 = 0 from rfl), tC_share hM hE he.1 hL hd (by omega), b1_s, if_pos rfl]
      · rw [if_neg (nI_ne0 (by omega) (by omega)), if_neg g0]
        by_cases g1 : g = 1
        · subst g1
          rw [if_pos (show nI 1 = 1 from rfl), tC_most hM he.1 hL hd (by omega), b1_s, if_pos rfl]
        · rw [if_neg (show ¬ nI g = 1 from fun w => g1 ((nI_eq (b := 1) (by omega) (by omega)).mp w)), tC_sum hM he.1 hL hd (by omega), b1_s, if_neg g1]
    · obtain ⟨k, rfl⟩ : ∃ k, b = k + 1 := ⟨b - 1, by omega⟩
      obtain ⟨m1, e1, e2⟩ := tE_taken hM hE hN hr (33 + 3 * (3 * g + (k + 1))) hg (show k < 3 by omega) (by omega) hL hd he (fun b' hb' => ht b' (by omega)) h0
      refine ⟨m1, ?_, e2⟩
      rw [if_neg b0, show 3 * g + (k + 1) - 1 = 3 * g + k by omega]
      unfold bn
      simp only [e1, b2_s]
theorem tE_rec (hM : qOk M) (hE : qE M) (hN : 100 ≤ N) : ∀ q, RecE N S M (fR_Ends_value N S q) q
  | 0, _, _, _, _, _, _, _, hq, _, _, _, _ => by omega
  | q + 1, g, b, c, d, m, hg, hb, hq, hL, hd, he, ht => by
    show ∃ m', fM_Ends_value N S (fR_Ends_value N S q) (33 + 3 * (3 * g + b)) (cs c d) m = _ ∧ _
    unfold fM_Ends_value
    obtain ⟨f, hf, _, hfl⟩ := he.2.2.2.2.1 (34 + 3 * (3 * g + b)) (tE_mem g hg b hb)
    have hf' : S.1 (33 + 3 * (3 * g + b) + 1) 0 = some f := by rw [show 33 + 3 * (3 * g + b) + 1 = 34 + 3 * (3 * g + b) by omega]; exact hf
    have hpl := plE_31 hM hL
    rw [t_endPlace hM he.2.1 he.2.2.1 hL.1 hd hL.2.2.2.2, b1_s, t_at hf' hfl hpl, b1_s]
    obtain ⟨m1, e1, e2⟩ := tE_find hM hE hN (tE_rec hM hE hN q) hg hb hq hL hd he ht
    rcases opt_or (plE M c) with ep | ⟨p, ep⟩
    · refine ⟨m1, ?_, e2⟩
      rw [show tAt m (S.2.2.1 f) f (plE M c) = UNK by rw [ep]; rfl, if_pos (show UNK = -9223372036854775808 from rfl), e1, b2_s, t_put hf' hfl hpl, b3_s, show ∀ z, tPt m1 (S.2.2.1 f) f (plE M c) z = m1 by intro z; rw [ep]; rfl]
    · by_cases hp : p < S.2.2.1 f
      · rw [show tAt m (S.2.2.1 f) f (plE M c) = mYy m f p by rw [ep]; exact if_pos hp]
        rcases ht b (Nat.le_refl _) f hf c p hL ep hp with h | h
        · refine ⟨vY m1 f p (lz (gE M g b c)), ?_, e2.trans (Gd_putE hM he.2.2.2.2 hg hb hf hL ep)⟩
          rw [h, if_pos (show UNK = -9223372036854775808 from rfl), e1, b2_s, t_put hf' hfl hpl, b3_s, show ∀ z, tPt m1 (S.2.2.1 f) f (plE M c) z = vY m1 f p z by intro z; rw [ep]; exact if_pos hp]
        · refine ⟨m, ?_, Gd.refl⟩
          rw [h, if_neg (show ¬ lz (gE M g b c) = -9223372036854775808 from lz_U (sm6_s (gE_b hM hE hL)))]
      · refine ⟨m1, ?_, e2⟩
        rw [show tAt m (S.2.2.1 f) f (plE M c) = UNK by rw [ep]; exact if_neg hp, if_pos (show UNK = -9223372036854775808 from rfl), e1, b2_s, t_put hf' hfl hpl, b3_s, show ∀ z, tPt m1 (S.2.2.1 f) f (plE M c) z = m1 by intro z; rw [ep]; exact if_neg hp]
theorem tE_value (hM : qOk M) (hE : qE M) (hN : 100 ≤ N) {g b c d : Nat} {m : Mm} (hg : g < 3) (hb : b < 3) (hh : hl c ≤ 3) (hL : Lg M c) (hd : d < 8) (he : Env S m M) (ht : ∀ b', b' ≤ b → TE M S m g b') : ∃ m', f_Ends_value N S (33 + 3 * (3 * g + b)) (cs c d) m = some (lz (gE M g b c), m') ∧ Gd M S m m' :=
  tE_rec hM hE hN 8 g b c d m hg hb (by omega) hL hd he ht
end CENDV
