/-! FARE: both alike. -/
section RFARE5
variable {N : Nat} {M : Mt}
theorem tR_f349 (hM : qOk M) (hE : qE M) (hN : 1000000 ≤ N) {x : Mm} {way g c d ls n0 : Nat} {mean : Bool} (hg : g < 3) (hls : d + ls = qD M) (hn0 : n0 = nK M d ls) (hW : RW x M) (hR : RE x M) (hc : Ds M (qO M) d c) (hF : ∀ i, i < nK M d ls → mYy x 22 i = rz (sK M way c d ls i) ∧ mYy x 24 i = lz (hK M d ls i)) (K : Int64 → Int32 → Mm → Option (Int32 × Mm)) : ∃ x', f_Mo_fare_L349 N (nI g) (tf mean) (nI n0) K N 0 0 x = K (lz (oW M way mean g ls c)) (nI n0) x' ∧ GE x x' ∧ RE x' M := by
  have hD := hM.2.1
  have hB := hM.2.2.2.1
  have hO := hM.2.2.1
  subst hn0
  have hk729 := nK_729 hM (d := d) (j := ls) (by omega)
  have hk0 := (nK_b hM (d := d) ls (by omega)).1
  have hds : ∀ i, i < nK M d ls → Ds M (qO M) (d + ls) (sK M way c d ls i) := fun i hi => sK_ds hM hE hc ls i (by omega) hi
  have step : ∀ (y : Mm) (k : Nat), k < nK M d ls → GE x y → RE y M → ∃ m2, f_Mo_ends N (mYy y 22 k) (nI g) (mI y 0 22) y = some (iz (gE M g (qB M) (sK M way c d ls k)), m2) ∧ GE x m2 ∧ RE m2 M ∧ mYy m2 24 k = lz (hK M d ls k) := by
    intro y k hk hG hRy
    have h22 : mYy y 22 k = rz (sK M way c d ls k) := by
      have := (hF k hk).1
      unfold mYy at *
      rw [hG.2.2.2 22 (by omega)]
      exact this
    have hWy := hG.rw hW
    obtain ⟨m2, e1, e2, e3⟩ := tR_ends hM hE hWy hRy hN (hds k hk).1 (by have := (hds k hk).2.2; omega) hg (show qB M < 3 by omega)
    refine ⟨m2, by rw [h22, hWy.2.2.2.1]; exact e1, hG.trans e2, e3, ?_⟩
    have := (hF k hk).2
    unfold mYy at *
    rw [(hG.trans e2).2.2.2 24 (by omega)]
    exact this
  have hsm : ∀ i, i < nK M d ls → sm3 (gE M g (qB M) (sK M way c d ls i)) := fun i hi => sm3_s (gE_b hM hE (hds i hi).1)
  have ho0 : ∀ i, oW M way mean g (qD M - (d + ls)) (sK M way c d ls i) = gE M g (qB M) (sK M way c d ls i) := fun i => by
    rw [show qD M - (d + ls) = 0 by omega, oW]
  have hls2 : qD M - d = ls := by omega
  cases mean with
  | false =>
    have hval : minA (nK M d ls) (fun i => gE M g (qB M) (sK M way c d ls i)) = oW M way false g ls c := by
      have := least_K hM (way := way) (g := g) (c := c) (d := d) (by omega) ls (by omega)
      rw [hls2] at this
      simp only [ho0] at this
      exact this
    obtain ⟨x', ⟨i1, i2⟩, e⟩ := loopE (fun n (y : Mm) k => f_Mo_fare_L349 N (nI g) (tf false) (nI (nK M d ls)) K n (zN (fun i => gE M g (qB M) (sK M way c d ls i)) k) (nI k) y) (fun y _ => GE x y ∧ RE y M) (nK M d ls) (fun y => K (zN (fun i => gE M g (qB M) (sK M way c d ls i)) (nK M d ls)) (nI (nK M d ls)) y) (fun n y k hk hI => by
      show ∃ y', _ ∧ f_Mo_fare_L349 N (nI g) (tf false) (nI (nK M d ls)) K (n + 1) _ (nI k) y = _
      obtain ⟨m2, e1, e2, e3, _⟩ := step y k hk hI.1 hI.2
      have hix : ix (nI k) 729 := nI_in (by omega) (by omega)
      refine ⟨m2, ⟨e2, e3⟩, ?_⟩
      rw [f_Mo_fare_L349, if_neg (nI_ge hk (by omega))]
      simp only [ck_t hix, nI_clamp (show k < 2 ^ 31 by omega)]
      rw [e1, b2_s, if_pos tf_f, nI_1, iz_64 (hsm k hk)]
      unfold zN
      rw [if_neg (show ¬ k + 1 = 0 by omega)]
      by_cases k0 : k = 0
      · subst k0
        rw [if_pos (show nI 0 = 0 from rfl), minA_1]
      · have hs6 : ∀ i, i < nK M d ls → sm6 (gE M g (qB M) (sK M way c d ls i)) := fun i hi => sm6_s (gE_b hM hE (hds i hi).1)
        have hm : sm6 (minA k (fun i => gE M g (qB M) (sK M way c d ls i))) := minA_P (by omega) (fun i hi => hs6 i (by omega))
        rw [if_neg (nI_ne0 (by omega) (by omega)), if_neg k0, minA_s]
        by_cases q : gE M g (qB M) (sK M way c d ls k) < minA k (fun i => gE M g (qB M) (sK M way c d ls i))
        · rw [if_pos q, if_neg (fun w => by have := (lz_le hm (hs6 k hk)).mp w; omega)]
        · rw [if_neg q, if_pos ((lz_le hm (hs6 k hk)).mpr (by omega))]) (fun n y hI => by
      show f_Mo_fare_L349 N (nI g) (tf false) (nI (nK M d ls)) K (n + 1) _ (nI (nK M d ls)) y = _
      rw [f_Mo_fare_L349, if_pos (nI_le (Nat.le_refl _) (by omega))]) (nK M d ls) N x 0 (by omega) (by omega) ⟨GE.refl, hR⟩
    have ez : zN (fun i => gE M g (qB M) (sK M way c d ls i)) (nK M d ls) = lz (oW M way false g ls c) := by
      unfold zN
      rw [if_neg (by omega), hval]
    rw [ez] at e
    exact ⟨x', e, i1, i2⟩
  | true =>
    have hval : sumA (nK M d ls) (fun i => hK M d ls i * gE M g (qB M) (sK M way c d ls i)) = oW M way true g ls c := by
      have := mean_K hM (way := way) (g := g) (c := c) (d := d) (by omega) ls (by omega)
      rw [hls2] at this
      simp only [ho0] at this
      exact this
    obtain ⟨x', ⟨i1, i2⟩, e⟩ := loopE (fun n (y : Mm) k => f_Mo_fare_L349 N (nI g) (tf true) (nI (nK M d ls)) K n (lz (sumA k (fun i => hK M d ls i * gE M g (qB M) (sK M way c d ls i)))) (nI k) y) (fun y _ => GE x y ∧ RE y M) (nK M d ls) (fun y => K (lz (sumA (nK M d ls) (fun i => hK M d ls i * gE M g (qB M) (sK M way c d ls i)))) (nI (nK M d ls)) y) (fun n y k hk hI => by
      show ∃ y', _ ∧ f_Mo_fare_L349 N (nI g) (tf true) (nI (nK M d ls)) K (n + 1) _ (nI k) y = _
      obtain ⟨m2, e1, e2, e3, e4⟩ := step y k hk hI.1 hI.2
      have hix : ix (nI k) 729 := nI_in (by omega) (by omega)
      refine ⟨m2, ⟨e2, e3⟩, ?_⟩
      rw [f_Mo_fare_L349, if_neg (nI_ge hk (by omega))]
      simp only [ck_t hix, nI_clamp (show k < 2 ^ 31 by omega)]
      rw [e1, b2_s, if_neg tft, nI_1, iz_64 (hsm k hk), e4, lz_mul, lz_add, sumA_s, Int.mul_comm (gE M g (qB M) (sK M way c d ls k))]) (fun n y hI => by
      show f_Mo_fare_L349 N (nI g) (tf true) (nI (nK M d ls)) K (n + 1) _ (nI (nK M d ls)) y = _
      rw [f_Mo_fare_L349, if_pos (nI_le (Nat.le_refl _) (by omega))]) (nK M d ls) N x 0 (by omega) (by omega) ⟨GE.refl, hR⟩
    rw [hval] at e
    exact ⟨x', e, i1, i2⟩
theorem tR_fare (hM : qOk M) (hE : qE M) (hN : 1000000 ≤ N) {mr : Mm} {way g c d : Nat} {mean : Bool} (hg : g < 3) (hway : way ≤ 4) (h15 : mI mr 0 15 = 1) (hW : RW mr M) (hR : RE mr M) (hn : RNw mr c d none) (hc : NW M c d none) : ∃ mr', f_Mo_fare N (nI way) (nI g) (tf mean) mr = some (tld mean (oW M way mean g (qD M - d) c) (qD M - d), mr') ∧ PQ mr mr' ∧ RE mr' M := by
  have hD := hM.2.1
  have hB := hM.2.2.2.1
  have hO := hM.2.2.1
  have hDs : Ds M (qO M) d c := ⟨hc.1, hc.2.2.2.1, hc.2.2.1⟩
  have first : ∃ m1, PQ mr m1 ∧ RE m1 M ∧ W4 M way d m1 c ∧ ∀ (J : Mm → Option (Int32 × Mm)), (if nI way = 4 then b2 (f_Mo_solved N 0 0 (mI mr 0 21) (mI mr 0 22) mr) fun r200 m200 => J m200 else J mr) = J m1 := by
    by_cases w4 : way = 4
    · obtain ⟨m1, G, A, e, hA, hF, hR', hP, h0⟩ := tR_solve (mean := false) (g := 0) hM hE hN (show qO M ≤ 3 by omega) (Nat.le_refl _) (by omega) (show qB M < 3 by omega) hW hR hn hc
      rw [tf_f] at e
      have e' : f_Mo_solved N 0 0 (nI (qO M)) (nI (qB M)) mr = _ := e
      exact ⟨m1, hP.pq, hR', fun _ => ⟨G, A, hA, hF, (h0 c).mpr rfl⟩, fun J => by rw [if_pos (show nI way = 4 by rw [w4]; rfl), hW.2.2.1, hW.2.2.2.1, e', b2_s]⟩
    · exact ⟨mr, PQ.refl, hR, fun q => absurd q w4, fun J => by rw [if_neg (show ¬ nI way = 4 from fun q => w4 ((nI_eq (b := 4) (by omega) (by omega)).mp q))]⟩
  obtain ⟨m1, p1, hR1, h4, eJ⟩ := first
  have hW1 := p1.rw hW
  have hn1 := p1.rn hn
  have hix0 : ix (0 : Int32) 729 := nI_in (c := 0) (by omega) (by omega)
  have f0 : (0 : Int32).toNatClampNeg = 0 := rfl
  have ein : f_Mo_in N (nI way) 0 4 = some 1 := in_ok (n := 5) (by omega) (by omega)
  have hF0 : FL M way c d m1 (vY (vY m1 22 0 (rz c)) 24 0 1) 0 0 := by
    refine ⟨(PW_v (by omega)).trans (PW_v (by omega)), fun i hi => ?_, fun i hi => by omega⟩
    have hi0 : i = 0 := by have : i < 1 := hi; omega
    subst hi0
    rw [vY_y, if_neg (by omega), vY_y, if_pos ⟨rfl, rfl⟩, vY_y, if_pos ⟨rfl, rfl⟩]
    exact ⟨rfl, rfl⟩
  have hls : d + (qD M - d) = qD M := by have := hc.2.1; omega
  obtain ⟨m2, e2, h2⟩ := tR_f78 (x2 := nI g) (x3 := tf mean) hM hE hN hway ⟨hW1, hn1.2.1⟩ hDs h4 hc.2.1 hF0 (fun (z95_4 : Int32) (z95_5 : Int32) (m95 : Mm) => f_Mo_fare_L349 N (nI g) (tf mean) z95_4 (fun (z103_5 : Int64) (z103_7 : Int32) (m103 : Mm) => b1 (f_Mo_told N z103_5 (tf mean) m103) fun r104 => some (r104, m103)) N 0 0 m95)
  have p2 := p1.trans h2.1.pq
  obtain ⟨m3, e3, g3, hR3⟩ := tR_f349 (mean := mean) (way := way) (ls := qD M - d) hM hE hN hg hls rfl (p2.rw hW) (RE_PW h2.1 hR1) hDs h2.2.1 (fun (z103_5 : Int64) (z103_7 : Int32) (m103 : Mm) => b1 (f_Mo_told N z103_5 (tf mean) m103) fun r104 => some (r104, m103))
  have p3 := p2.trans g3.ps.pq
  refine ⟨m3, ?_, p3, hR3⟩
  unfold f_Mo_fare
  rw [h15, if_neg (show ¬ (1 : Int32) = 0 by decide), tR_isGoal hg, b1_s, if_neg (show ¬ (1 : Int32) = 0 by decide), ein, b1_s, if_neg (show ¬ (1 : Int32) = 0 by decide), hn.2.2, if_pos (show zOpt none = -1 from rfl)]
  simp only [jn]
  rw [eJ (fun m7 => ck (ix (0 : Int32) 729) (ck (ix (0 : Int32) 729) (f_Mo_fare_L78 N (nI way) (nI g) (tf mean) (fun (z95_4 : Int32) (z95_5 : Int32) (m95 : Mm) => f_Mo_fare_L349 N (nI g) (tf mean) z95_4 (fun (z103_5 : Int64) (z103_7 : Int32) (m103 : Mm) => b1 (f_Mo_told N z103_5 (tf mean) m103) fun r104 => some (r104, m103)) N 0 0 m95) N 1 0 (vY (vY m7 22 ((0 : Int32).toNatClampNeg) ((mJ m7 0 23))) 24 ((0 : Int32).toNatClampNeg) 1))))]
  rw [ck_t hix0, ck_t hix0, hn1.1]
  have e2' : f_Mo_fare_L78 N (nI way) (nI g) (tf mean) (fun (z95_4 : Int32) (z95_5 : Int32) (m95 : Mm) => f_Mo_fare_L349 N (nI g) (tf mean) z95_4 (fun (z103_5 : Int64) (z103_7 : Int32) (m103 : Mm) => b1 (f_Mo_told N z103_5 (tf mean) m103) fun r104 => some (r104, m103)) N 0 0 m95) N 1 0 (vY (vY m1 22 ((0 : Int32).toNatClampNeg) (rz c)) 24 ((0 : Int32).toNatClampNeg) 1) = _ := e2
  rw [e2', e3, tR_told hM hN (p3.rw hW) (p3.rn hn) hc.2.1, b1_s]
end RFARE5
section STFARE
variable {N : Nat} {M : Mt} {tl : Bool} {c d : Nat} {w : Option Nat} {im : Nat → Option (Nat × Nat × Option Nat)} {len : Nat} {S : St} {m mr : Mm}
theorem st_fare (hN : 1000000 ≤ N) (h : REL tl M c d w im len S m mr) (x y : Int32) (mean : Bool) : StQ tl M c d w im len S (f_SC_fare N S x y (tf mean) m) (f_Mo_fare N x y (tf mean) mr) := by
  rcases look_or (N := N) h y with ⟨e0, hw⟩ | ⟨e0, rfl, rfl, g, hg, rfl⟩
  · have eC : f_SC_fare N S x y (tf mean) m = some (-2147483648, m, S) := by unfold f_SC_fare; rw [e0, b1_s, if_pos rfl]
    have eR : f_Mo_fare N x y (tf mean) mr = some (-2147483648, mr) := by
      unfold f_Mo_fare
      rcases hw with rfl | ⟨rfl, g2⟩ | ⟨rfl, ⟨g, hg, rfl⟩, s, rfl⟩
      · rw [h.2.2.1.2.1, if_pos tf_f]
      · rw [h.2.2.1.2.1, if_neg tft, g2, b1_s, if_pos rfl]
      · rw [h.2.2.1.2.1, if_neg tft, tR_isGoal hg, b1_s, if_neg (show ¬ (1 : Int32) = 0 by decide), h.2.2.1.2.2.2.2, if_neg (zs_m1 (h.1.2.2.2.2.2 s rfl).1)]
        unfold f_Mo_in
        split
        · rw [b1_s, if_pos rfl]
        · split
          · rw [b1_s, if_pos rfl]
          · rw [b1_s, if_neg (show ¬ (1 : Int32) = 0 by decide)]
    rw [eC, eR]
    exact StQ_same h
  · have eRf : f_Mo_in N x 0 4 = some 0 → f_Mo_fare N x (nI g) (tf mean) mr = some (-2147483648, mr) := by
      intro e
      unfold f_Mo_fare
      rw [h.2.2.1.2.1, if_neg tft, tR_isGoal hg, b1_s, if_neg (show ¬ (1 : Int32) = 0 by decide), e, b1_s, if_pos rfl]
    rcases pk_ix x (n := 5) (by omega) with hx | hx | ⟨way, hway, rfl⟩
    · have eC : f_SC_fare N S x (nI g) (tf mean) m = some (-2147483648, m, S) := by unfold f_SC_fare; rw [e0, b1_s, if_neg (show ¬ (1 : Int32) = 0 by decide), if_pos hx]
      rw [eC, eRf (in_lo hx)]
      exact StQ_same h
    · have hb := i32_big (show 5 ≤ 1000 by omega) hx
      have h4 : ¬ x ≤ 4 := by
        rw [Int32.le_iff_toInt_le]
        have t4 : (4 : Int32).toInt = 4 := by decide
        have := hb.2.2
        omega
      have eC : f_SC_fare N S x (nI g) (tf mean) m = some (-2147483648, m, S) := by unfold f_SC_fare; rw [e0, b1_s, if_neg (show ¬ (1 : Int32) = 0 by decide), if_neg hb.1, if_neg h4]
      rw [eC, eRf (in_hi (n := 5) (by omega) hx)]
      exact StQ_same h
    · obtain ⟨hE, hC, hR⟩ := h.2.2.2.2.2.1 rfl
      obtain ⟨m', S', e1, q1⟩ := tC_fare (mean := mean) h.1.1 hE hN hg (show way ≤ 4 by omega) (h.2.1.2.2.1) hC h.2.1.2.2.2 h.1.2
      obtain ⟨mr', e2, p2, r2⟩ := tR_fare (mean := mean) h.1.1 hE hN hg (show way ≤ 4 by omega) h.2.2.1.2.1 h.2.2.1.1 hR h.2.2.1.2.2 h.1.2
      exact StQ_mk h (by omega) e1 e2 q1 p2 r2
end STFARE
