/-! FARE: the reference, whole. -/
/-- the lists as they stand -/
def FL (M : Mt) (way c d : Nat) (m x : Mm) (j t : Nat) : Prop := PW m x ∧ (∀ i, i < nK M d j → mYy x 22 i = rz (sK M way c d j i) ∧ mYy x 24 i = lz (hK M d j i)) ∧ ∀ i, i < t → mYy x 23 i = rz (sK M way c d (j + 1) i) ∧ mYy x 25 i = lz (hK M d (j + 1) i)
section RFARE4
variable {N : Nat} {M : Mt}
theorem tR_f108 (hM : qOk M) (hE : qE M) (hN : 1000000 ≤ N) {m x : Mm} {way c d j k : Nat} {x2 x3 x4 : Int32} (hway : way ≤ 4) (hX : CxR M d m) (hc : Ds M (qO M) d c) (h4 : W4 M way d m c) (hj : d + j < qD M) (hk : k < nK M d j) (hF : FL M way c d m x j (k * qA M (d + j))) (K : Int32 → Int32 → Mm → Option (Int32 × Mm)) : ∃ x', f_Mo_fare_L108 N (nI way) x2 x3 x4 (nI j) (nI k) K N (nI (k * qA M (d + j))) 0 x = K (nI ((k + 1) * qA M (d + j))) (nI (qA M (d + j))) x' ∧ FL M way c d m x' j ((k + 1) * qA M (d + j)) := by
  have hD := hM.2.1
  have hA := hM.2.2.2.2.2.2.1 (d + j) hj
  have h729 := nK_729 hM (d := d) (j := j + 1) (by omega)
  have hkA : (k + 1) * qA M (d + j) ≤ nK M d (j + 1) := Nat.mul_le_mul_right _ hk
  have hk729 := nK_729 hM (d := d) (j := j) (by omega)
  have hs1 : (k + 1) * qA M (d + j) = k * qA M (d + j) + qA M (d + j) := Nat.succ_mul _ _
  obtain ⟨x', hI, e⟩ := loopE (fun n (y : Mm) a => f_Mo_fare_L108 N (nI way) x2 x3 x4 (nI j) (nI k) K n (nI (k * qA M (d + j) + a)) (nI a) y) (fun y a => FL M way c d m y j (k * qA M (d + j) + a)) (qA M (d + j)) (fun y => K (nI (k * qA M (d + j) + qA M (d + j))) (nI (qA M (d + j))) y) (fun n y a ha hI => by
    show ∃ y', _ ∧ f_Mo_fare_L108 N (nI way) x2 x3 x4 (nI j) (nI k) K (n + 1) (nI (k * qA M (d + j) + a)) (nI a) y = _
    obtain ⟨p1, p2, p3⟩ := hI
    have hXy : CxR M d y := ⟨p1.rw hX.1, by have := hX.2; unfold mI at *; rw [p1.1]; exact this⟩
    have hix1 : ix (nI (k * qA M (d + j) + a)) 729 := nI_in (by omega) (by omega)
    have hix2 : ix (nI k) 729 := nI_in (by omega) (by omega)
    have hC := (hM.2.2.2.2.2.2.2 _ a hj ha).1
    have e1 : (k * qA M (d + j) + a) / qA M (d + j) = k := by rw [Nat.mul_comm, Nat.mul_add_div (by omega), Nat.div_eq_of_lt ha]; rfl
    have e2 : (k * qA M (d + j) + a) % qA M (d + j) = a := by rw [Nat.mul_comm, Nat.mul_add_mod, Nat.mod_eq_of_lt ha]
    generalize hv : rz (nxW M way (qD M - (d + j + 1)) (sK M way c d j k) (d + j) a) = v
    have hsk : rz (sK M way c d (j + 1) (k * qA M (d + j) + a)) = v := by rw [sK, e1, e2, ← hv]
    have hhk : hK M d (j + 1) (k * qA M (d + j) + a) = hK M d j k * (qC M (d + j) a : Int) := by rw [hK, e1, e2]
    have hWv : RW (vY y 23 (k * qA M (d + j) + a) v) M := (PW_v (by omega)).rw hXy.1
    refine ⟨vY (vY y 23 (k * qA M (d + j) + a) v) 25 (k * qA M (d + j) + a) (lz (hK M d (j + 1) (k * qA M (d + j) + a))), ⟨(p1.trans (PW_v (by omega))).trans (PW_v (by omega)), fun i hi => ?_, fun i hi => ?_⟩, ?_⟩
    · rw [vY_y, if_neg (by omega), vY_y, if_neg (by omega), vY_y, if_neg (by omega), vY_y, if_neg (by omega)]
      exact p2 i hi
    · rw [vY_y, if_neg (by omega), vY_y, vY_y]
      by_cases q : i = k * qA M (d + j) + a
      · rw [if_pos ⟨rfl, q⟩, if_pos ⟨rfl, q⟩, q, hsk]
        exact ⟨rfl, rfl⟩
      · rw [if_neg (fun w => q w.2), if_neg (fun w => q w.2), vY_y, if_neg (by omega)]
        exact p3 i (by omega)
    · rw [f_Mo_fare_L108, hXy.2, nI_add, ck_t (nI_in (show d + j < 6 by omega) (by omega)), nI_clamp (show d + j < 2 ^ 31 by omega), hXy.1.2.2.2.2.2.1 _ hj, if_neg (nI_ge ha (by omega)), tR_alt1 hM hXy.1 hj ha, tR_alt2 hM hXy.1 hj ha]
      simp only [jn, b1_s, ck_t hix1, ck_t hix2, nI_clamp (show k < 2 ^ 31 by omega), nI_clamp (show k * qA M (d + j) + a < 2 ^ 31 by omega)]
      rw [(p2 k hk).1, (p2 k hk).2, tR_nx hM hE hN hway hXy hc (h4.pw p1) hj hk ha (fun s17 => b1 (f_Mo_altOf N (nI (d + j)) (nI a) 0 (vY y 23 (k * qA M (d + j) + a) s17)) fun r20 => f_Mo_fare_L108 N (nI way) x2 x3 x4 (nI j) (nI k) K n (nI (k * qA M (d + j) + a) + 1) (nI a + 1) (vY (vY y 23 (k * qA M (d + j) + a) s17) 25 (k * qA M (d + j) + a) (lz (hK M d j k) * r20.toInt64))), hv, tR_alt0 hM hWv hj ha, b1_s, nI_lz (by omega), lz_mul, ← hhk, nI_1, nI_1]
      rfl) (fun n y hI => by
    show f_Mo_fare_L108 N (nI way) x2 x3 x4 (nI j) (nI k) K (n + 1) (nI (k * qA M (d + j) + qA M (d + j))) (nI (qA M (d + j))) y = _
    have hXy : CxR M d y := ⟨hI.1.rw hX.1, by have := hX.2; unfold mI at *; rw [hI.1.1]; exact this⟩
    rw [f_Mo_fare_L108, hXy.2, nI_add, ck_t (nI_in (show d + j < 6 by omega) (by omega)), nI_clamp (show d + j < 2 ^ 31 by omega), hXy.1.2.2.2.2.2.1 _ hj, if_pos (nI_le (Nat.le_refl _) (by omega))]) (qA M (d + j)) N x 0 (by omega) (by omega) hF
  refine ⟨x', ?_, ?_⟩
  · rw [hs1]
    exact e
  · rw [hs1]
    exact hI
theorem tR_f98 (hM : qOk M) (hE : qE M) (hN : 1000000 ≤ N) {m x : Mm} {way c d j : Nat} {x2 x3 : Int32} (hway : way ≤ 4) (hX : CxR M d m) (hc : Ds M (qO M) d c) (h4 : W4 M way d m c) (hj : d + j < qD M) (hF : FL M way c d m x j 0) (K : Int32 → Int32 → Mm → Option (Int32 × Mm)) : ∃ x', f_Mo_fare_L98 N (nI way) x2 x3 (nI (nK M d j)) (nI j) K N 0 0 x = K (nI (nK M d (j + 1))) (nI (nK M d j)) x' ∧ FL M way c d m x' j (nK M d (j + 1)) := by
  have hk729 := nK_729 hM (d := d) (j := j) (by omega)
  obtain ⟨x', hI, e⟩ := loopE (fun n (y : Mm) k => f_Mo_fare_L98 N (nI way) x2 x3 (nI (nK M d j)) (nI j) K n (nI (k * qA M (d + j))) (nI k) y) (fun y k => FL M way c d m y j (k * qA M (d + j))) (nK M d j) (fun y => K (nI (nK M d j * qA M (d + j))) (nI (nK M d j)) y) (fun n y k hk hI => by
    show ∃ y', _ ∧ f_Mo_fare_L98 N (nI way) x2 x3 (nI (nK M d j)) (nI j) K (n + 1) (nI (k * qA M (d + j))) (nI k) y = _
    obtain ⟨y', e1, h1⟩ := tR_f108 (x2 := x2) (x3 := x3) (x4 := nI (nK M d j)) hM hE hN hway hX hc h4 hj hk hI (fun z1 z2 z3 => f_Mo_fare_L98 N (nI way) x2 x3 (nI (nK M d j)) (nI j) K n z1 (nI k + 1) z3)
    refine ⟨y', h1, ?_⟩
    rw [f_Mo_fare_L98, if_neg (nI_ge hk (by omega)), e1, nI_1]) (fun n y hI => by
    show f_Mo_fare_L98 N (nI way) x2 x3 (nI (nK M d j)) (nI j) K (n + 1) _ (nI (nK M d j)) y = _
    rw [f_Mo_fare_L98, if_pos (nI_le (Nat.le_refl _) (by omega))]) (nK M d j) N x 0 (by omega) (by omega) (by rw [Nat.zero_mul]; exact hF)
  refine ⟨x', ?_, hI⟩
  rw [Nat.zero_mul] at e
  exact e
theorem tR_f292 (hM : qOk M) (hN : 1000000 ≤ N) {m x : Mm} {way c d j : Nat} {x1 x2 x3 x5 : Int32} (hj : d + j < qD M) (hF : FL M way c d m x j (nK M d (j + 1))) (K : Int32 → Mm → Option (Int32 × Mm)) : ∃ x', f_Mo_fare_L292 N x1 x2 x3 x5 (nI (nK M d (j + 1))) K N 0 x = K (nI (nK M d (j + 1))) x' ∧ FL M way c d m x' (j + 1) 0 := by
  have hk729 := nK_729 hM (d := d) (j := j + 1) (by omega)
  obtain ⟨x', ⟨i1, i2, i3⟩, e⟩ := loopE (fun n (y : Mm) i => f_Mo_fare_L292 N x1 x2 x3 x5 (nI (nK M d (j + 1))) K n (nI i) y) (fun y i => PW m y ∧ (∀ t, t < nK M d (j + 1) → mYy y 23 t = rz (sK M way c d (j + 1) t) ∧ mYy y 25 t = lz (hK M d (j + 1) t)) ∧ ∀ t, t < i → mYy y 22 t = rz (sK M way c d (j + 1) t) ∧ mYy y 24 t = lz (hK M d (j + 1) t)) (nK M d (j + 1)) (fun y => K (nI (nK M d (j + 1))) y) (fun n y i hi hI => by
    show ∃ y', _ ∧ f_Mo_fare_L292 N x1 x2 x3 x5 (nI (nK M d (j + 1))) K (n + 1) (nI i) y = _
    obtain ⟨p1, p2, p3⟩ := hI
    have hix : ix (nI i) 729 := nI_in (by omega) (by omega)
    refine ⟨vY (vY y 22 i (rz (sK M way c d (j + 1) i))) 24 i (lz (hK M d (j + 1) i)), ⟨(p1.trans (PW_v (by omega))).trans (PW_v (by omega)), fun t ht => ?_, fun t ht => ?_⟩, ?_⟩
    · rw [vY_y, if_neg (by omega), vY_y, if_neg (by omega), vY_y, if_neg (by omega), vY_y, if_neg (by omega)]
      exact p2 t ht
    · rw [vY_y, if_neg (by omega), vY_y, vY_y]
      by_cases q : t = i
      · rw [if_pos ⟨rfl, q⟩, if_pos ⟨rfl, q⟩, q]
        exact ⟨rfl, rfl⟩
      · rw [if_neg (fun w => q w.2), if_neg (fun w => q w.2), vY_y, if_neg (by omega)]
        exact p3 t (by omega)
    · rw [f_Mo_fare_L292, if_neg (nI_ge hi (by omega))]
      simp only [ck_t hix, nI_clamp (show i < 2 ^ 31 by omega)]
      rw [(p2 i hi).1, (p2 i hi).2, nI_1]) (fun n y hI => by
    show f_Mo_fare_L292 N x1 x2 x3 x5 (nI (nK M d (j + 1))) K (n + 1) (nI (nK M d (j + 1))) y = _
    rw [f_Mo_fare_L292, if_pos (nI_le (Nat.le_refl _) (by omega))]) (nK M d (j + 1)) N x 0 (by omega) (by omega) ⟨hF.1, hF.2.2, fun t ht => by omega⟩
  exact ⟨x', e, i1, i3, fun t ht => by omega⟩
theorem tR_f78 (hM : qOk M) (hE : qE M) (hN : 1000000 ≤ N) {m x : Mm} {way c d : Nat} {x2 x3 : Int32} (hway : way ≤ 4) (hX : CxR M d m) (hc : Ds M (qO M) d c) (h4 : W4 M way d m c) (hd : d ≤ qD M) (hF : FL M way c d m x 0 0) (K : Int32 → Int32 → Mm → Option (Int32 × Mm)) : ∃ x', f_Mo_fare_L78 N (nI way) x2 x3 K N 1 0 x = K (nI (nK M d (qD M - d))) (nI (qD M - d)) x' ∧ FL M way c d m x' (qD M - d) 0 := by
  have hD := hM.2.1
  obtain ⟨x', hI, e⟩ := loopE (fun n (y : Mm) j => f_Mo_fare_L78 N (nI way) x2 x3 K n (nI (nK M d j)) (nI j) y) (fun y j => FL M way c d m y j 0) (qD M - d) (fun y => K (nI (nK M d (qD M - d))) (nI (qD M - d)) y) (fun n y j hj hI => by
    show ∃ y', _ ∧ f_Mo_fare_L78 N (nI way) x2 x3 K (n + 1) (nI (nK M d j)) (nI j) y = _
    have hXy : CxR M d y := ⟨hI.1.rw hX.1, by have := hX.2; unfold mI at *; rw [hI.1.1]; exact this⟩
    obtain ⟨y1, e1, h1⟩ := tR_f98 (x2 := x2) (x3 := x3) hM hE hN hway hX hc h4 (show d + j < qD M by omega) hI (fun (z46_6 : Int32) (z46_7 : Int32) (m46 : Mm) => f_Mo_fare_L292 N (nI way) x2 x3 (nI j) z46_6 (fun (z52_7 : Int32) (m52 : Mm) => f_Mo_fare_L78 N (nI way) x2 x3 K n z46_6 (nI j + 1) m52) N 0 m46)
    obtain ⟨y2, e2, h2⟩ := tR_f292 (x1 := nI way) (x2 := x2) (x3 := x3) (x5 := nI j) hM hN (show d + j < qD M by omega) h1 (fun (z52_7 : Int32) (m52 : Mm) => f_Mo_fare_L78 N (nI way) x2 x3 K n (nI (nK M d (j + 1))) (nI j + 1) m52)
    refine ⟨y2, h2, ?_⟩
    rw [f_Mo_fare_L78, hXy.1.2.1, hXy.2, pk_sub hd, if_neg (nI_ge hj (by omega)), e1, e2, nI_1]) (fun n y hI => by
    show f_Mo_fare_L78 N (nI way) x2 x3 K (n + 1) (nI (nK M d (qD M - d))) (nI (qD M - d)) y = _
    have hXy : CxR M d y := ⟨hI.1.rw hX.1, by have := hX.2; unfold mI at *; rw [hI.1.1]; exact this⟩
    rw [f_Mo_fare_L78, hXy.1.2.1, hXy.2, pk_sub hd, if_pos (nI_le (Nat.le_refl _) (by omega))]) (qD M - d) N x 0 (by omega) (by omega) hF
  exact ⟨x', e, hI⟩
end RFARE4
