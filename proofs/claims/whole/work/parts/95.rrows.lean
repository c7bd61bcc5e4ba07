/-! THE REFERENCE: rows of digits; judge. -/
/-- only the row of digits has changed -/
def PD (m m' : Mm) : Prop := m'.1 = m.1 ∧ m'.2.1 = m.2.1 ∧ (∀ a, a ≠ 21 → m'.2.2.1 a = m.2.2.1 a) ∧ m'.2.2.2 = m.2.2.2
theorem PD.refl {m : Mm} : PD m m := ⟨rfl, rfl, fun _ _ => rfl, rfl⟩
theorem PD.trans {m m1 m2 : Mm} (h : PD m m1) (h' : PD m1 m2) : PD m m2 := ⟨h'.1.trans h.1, h'.2.1.trans h.2.1, fun a q => (h'.2.2.1 a q).trans (h.2.2.1 a q), h'.2.2.2.trans h.2.2.2⟩
/-- what a call of the reference may change besides: rows and fields that every call makes anew -/
def PQ (m m' : Mm) : Prop := (∀ a k, ¬ (a = 0 ∧ (k = 33 ∨ k = 39 ∨ k = 40)) → m'.1 a k = m.1 a k) ∧ (∀ a k, ¬ (a = 0 ∧ k = 46) → m'.2.1 a k = m.2.1 a k) ∧ (∀ a, a ≠ 15 → a ≠ 16 → a ≠ 19 → a ≠ 20 → a ≠ 21 → m'.2.2.1 a = m.2.2.1 a) ∧ ∀ a, a ≠ 14 → a ≠ 17 → a ≠ 18 → a ≠ 22 → a ≠ 23 → a ≠ 24 → a ≠ 25 → m'.2.2.2 a = m.2.2.2 a
theorem PQ.refl {m : Mm} : PQ m m := ⟨fun _ _ _ => rfl, fun _ _ _ => rfl, fun _ _ _ _ _ _ => rfl, fun _ _ _ _ _ _ _ _ => rfl⟩
theorem PQ.trans {m m1 m2 : Mm} (h : PQ m m1) (h' : PQ m1 m2) : PQ m m2 := ⟨fun a k q => (h'.1 a k q).trans (h.1 a k q), fun a k q => (h'.2.1 a k q).trans (h.2.1 a k q), fun a q1 q2 q3 q4 q5 => (h'.2.2.1 a q1 q2 q3 q4 q5).trans (h.2.2.1 a q1 q2 q3 q4 q5), fun a q1 q2 q3 q4 q5 q6 q7 => (h'.2.2.2 a q1 q2 q3 q4 q5 q6 q7).trans (h.2.2.2 a q1 q2 q3 q4 q5 q6 q7)⟩
theorem PS.pq {m m' : Mm} (h : PS m m') : PQ m m' := ⟨h.1, fun a k _ => by rw [h.2.1], fun a q1 q2 q3 q4 _ => h.2.2.1 a q1 q2 q3 q4, fun a q1 q2 q3 _ _ _ _ => h.2.2.2 a q1 q2 q3⟩
theorem PD.pq {m m' : Mm} (h : PD m m') : PQ m m' := ⟨fun a k _ => by rw [h.1], fun a k _ => by rw [h.2.1], fun a _ _ _ _ q => h.2.2.1 a q, fun a _ _ _ _ _ _ _ => by rw [h.2.2.2]⟩
theorem PQ.rn {m m' : Mm} {c d : Nat} {w : Option Nat} (h : PQ m m') (hn : RNw m c d w) : RNw m' c d w := by
  have e1 := h.1 0 24 (by omega)
  have e2 := h.1 0 25 (by omega)
  have e3 := h.2.1 0 23 (by omega)
  unfold RNw mJ mI at *
  rw [e1, e2, e3]
  exact hn
theorem PQ.rw {m m' : Mm} {M : Mt} (h : PQ m m') (hw : RW m M) : RW m' M := RW_of (fun k hk => h.1 0 k (by omega)) (fun a ha => h.2.2.1 a (by omega) (by omega) (by omega) (by omega) (by omega)) hw
theorem RE_PD {M : Mt} {m m' : Mm} (hp : PD m m') (h : RE m M) : RE m' M := RE_same hp.1 hp.2.2.2 (hp.2.2.1 15 (by omega)) h
section RROWS
variable {N : Nat} {M : Mt}
theorem isr_2 (x : Int32) : isr x 2 = isr x (nI 2) := rfl
theorem tR_isRow (hM : qOk M) (hN : 1000000 ≤ N) {m : Mm} {c d n : Nat} {w : Option Nat} (hW : RW m M) (hn : RNw m c d w) (hd : d ≤ qD M) (hx : n < 2 ^ 32) : ∃ m', f_Mo_isRow N (nI n) m = some (tf (gOk M d n), m') ∧ PD m m' ∧ (n < 2 ^ 31 → ∀ j, j < qD M - d → mX m' 21 j = nI (ro n j)) := by
  have hD := hM.2.1
  unfold f_Mo_isRow
  by_cases h : n < 2 ^ 31
  · obtain ⟨m', ⟨b1, b2⟩, e⟩ := loopE (fun f (x : Mm) j => f_Mo_isRow_L4 N (nI n) (fun (z3_2 : Int32) (z3_3 : Int32) (m3 : Mm) => (if nI n < 0 then some (0, m3) else (if z3_2 = 0 then some (1, m3) else some (0, m3)))) f (nI (n / 4 ^ j)) (nI j) x) (fun x j => PD m x ∧ ∀ i, i < j → mX x 21 i = nI (ro n i)) (qD M - d) (fun x => some (tf (gOk M d n), x)) (fun f x j hj hI => by
      show ∃ x', _ ∧ f_Mo_isRow_L4 N (nI n) _ (f + 1) (nI (n / 4 ^ j)) (nI j) x = _
      obtain ⟨b1, b2⟩ := hI
      have hq : n / 4 ^ j < 2 ^ 31 := Nat.lt_of_le_of_lt (Nat.div_le_self _ _) h
      have e18 : mI x 0 18 = nI (qD M) := by unfold mI; rw [b1.1]; exact hW.2.1
      have e24 : mI x 0 24 = nI d := by unfold mI; rw [b1.1]; exact hn.2.1
      refine ⟨vX x 21 j (nI (ro n j)), ⟨b1.trans ⟨rfl, rfl, fun a ha => vX_o ha, rfl⟩, fun i hi => ?_⟩, ?_⟩
      · show u2 x.2.2.1 21 j (nI (ro n j)) 21 i = _
        rw [u2_eq]
        by_cases q : i = j
        · rw [if_pos q, q]
        · rw [if_neg q]
          exact b2 i (by omega)
      · rw [f_Mo_isRow_L4, e18, e24, pk_sub hd, if_neg (nI_ge hj (by omega)), ck_t (nI_in (by omega) (by omega)), nI_a3, isr_2, isr_n hq (by omega), nI_clamp (by omega), nI_1]
        have : n / 4 ^ j / 2 ^ 2 = n / 4 ^ (j + 1) := by rw [Nat.div_div_eq_div_mul, show (2 : Nat) ^ 2 = 4 from rfl, ← Nat.pow_succ]
        rw [this]
        rfl) (fun f x hI => by
      show f_Mo_isRow_L4 N (nI n) _ (f + 1) (nI (n / 4 ^ (qD M - d))) (nI (qD M - d)) x = _
      have e18 : mI x 0 18 = nI (qD M) := by unfold mI; rw [hI.1.1]; exact hW.2.1
      have e24 : mI x 0 24 = nI d := by unfold mI; rw [hI.1.1]; exact hn.2.1
      have hq : n / 4 ^ (qD M - d) < 2 ^ 31 := Nat.lt_of_le_of_lt (Nat.div_le_self _ _) h
      rw [f_Mo_isRow_L4, e18, e24, pk_sub hd, if_pos (nI_le (Nat.le_refl _) (by omega)), if_neg (nI_pos h)]
      unfold gOk
      by_cases q : n / 4 ^ (qD M - d) = 0
      · rw [q, if_pos (show nI 0 = 0 from rfl)]
        simp [h, tf]
      · rw [if_neg (nI_ne0 (Nat.pos_of_ne_zero q) hq)]
        simp [h, q, tf]) (qD M - d) N m 0 (by omega) (by omega) ⟨PD.refl, fun i hi => by omega⟩
    have e0 : n / 4 ^ 0 = n := by rw [Nat.pow_zero, Nat.div_one]
    rw [e0] at e
    exact ⟨m', e, b1, fun _ => b2⟩
  · obtain ⟨⟨x', m'⟩, b1, e⟩ := loopE (fun f (x : Int32 × Mm) j => f_Mo_isRow_L4 N (nI n) (fun (z3_2 : Int32) (z3_3 : Int32) (m3 : Mm) => (if nI n < 0 then some (0, m3) else (if z3_2 = 0 then some (1, m3) else some (0, m3)))) f x.1 (nI j) x.2) (fun x j => PD m x.2) (qD M - d) (fun x => some (0, x.2)) (fun f x j hj hI => by
      show ∃ x', _ ∧ f_Mo_isRow_L4 N (nI n) _ (f + 1) x.1 (nI j) x.2 = _
      have e18 : mI x.2 0 18 = nI (qD M) := by unfold mI; rw [hI.1]; exact hW.2.1
      have e24 : mI x.2 0 24 = nI d := by unfold mI; rw [hI.1]; exact hn.2.1
      refine ⟨(isr x.1 2, vX x.2 21 j (x.1 &&& 3)), hI.trans ⟨rfl, rfl, fun a ha => vX_o ha, rfl⟩, ?_⟩
      rw [f_Mo_isRow_L4, e18, e24, pk_sub hd, if_neg (nI_ge hj (by omega)), ck_t (nI_in (by omega) (by omega)), nI_clamp (by omega), nI_1]) (fun f x hI => by
      show f_Mo_isRow_L4 N (nI n) _ (f + 1) x.1 (nI (qD M - d)) x.2 = _
      have e18 : mI x.2 0 18 = nI (qD M) := by unfold mI; rw [hI.1]; exact hW.2.1
      have e24 : mI x.2 0 24 = nI d := by unfold mI; rw [hI.1]; exact hn.2.1
      rw [f_Mo_isRow_L4, e18, e24, pk_sub hd, if_pos (nI_le (Nat.le_refl _) (by omega)), if_pos (nI_neg (by omega) hx)]) (qD M - d) N (nI n, m) 0 (by omega) (by omega) PD.refl
    refine ⟨m', ?_, b1, fun q => absurd q h⟩
    have : gOk M d n = false := by unfold gOk; simp [h]
    rw [this]
    exact e
theorem tR_isAltRow (hM : qOk M) (hN : 1000000 ≤ N) {m : Mm} {c d n : Nat} {w : Option Nat} (hW : RW m M) (hn : RNw m c d w) (hd : d ≤ qD M) (hx : n < 2 ^ 32) : ∃ m', f_Mo_isAltRow N (nI n) m = some (tf (rOk M d n), m') ∧ PD m m' ∧ (rOk M d n = true → ∀ j, j < qD M - d → mX m' 21 j = nI (ro n j)) := by
  have hD := hM.2.1
  obtain ⟨m1, e1, p1, d1⟩ := tR_isRow hM hN hW hn hd hx
  refine ⟨m1, ?_, p1, fun h => d1 (rOk_n h)⟩
  unfold f_Mo_isAltRow
  rw [e1, b2_s]
  have e18 : mI m1 0 18 = nI (qD M) := by unfold mI; rw [p1.1]; exact hW.2.1
  have e24 : mI m1 0 24 = nI d := by unfold mI; rw [p1.1]; exact hn.2.1
  have e8 : ∀ k, mX m1 8 k = mX m 8 k := fun k => by unfold mX; rw [p1.2.2.1 8 (by omega)]
  cases eg : gOk M d n
  · rw [if_pos tf_f]
    have : rOk M d n = false := by
      unfold rOk
      unfold gOk at eg
      rw [eg, Bool.and_false]
    rw [this]
    rfl
  · rw [if_neg (by rw [tf_t]; decide)]
    have hn31 : n < 2 ^ 31 := by
      unfold gOk at eg
      rw [Bool.and_eq_true] at eg
      exact of_decide_eq_true eg.1
    refine loopP (fun f (_ : Unit) j => f_Mo_isAltRow_L12 N m1 (fun (z7_2 : Int32) => some (1, m1)) f (nI j)) (fun _ j => ∀ i, i < j → ro n i < qA M (d + i)) (fun o => o = some (tf (rOk M d n), m1)) (qD M - d) (fun f _ j hj hI => ?_) (fun f _ hI => ?_) (qD M - d) N () 0 (by omega) (by omega) (fun i hi => by omega)
    · show f_Mo_isAltRow_L12 N m1 _ (f + 1) (nI j) = _ ∨ ∃ x', _ ∧ f_Mo_isAltRow_L12 N m1 _ (f + 1) (nI j) = _
      have hA := hM.2.2.2.2.2.2.1 (d + j) (by omega)
      have h4 := ro_lt n j
      rw [f_Mo_isAltRow_L12, e18, e24, pk_sub hd, if_neg (nI_ge hj (by omega)), ck_t (nI_in (by omega) (by omega)), nI_add, ck_t (nI_in (show d + j < 6 by omega) (by omega)), nI_clamp (by omega), nI_clamp (by omega), e8, hW.2.2.2.2.2.1 _ (by omega), d1 hn31 j hj]
      by_cases q : ro n j < qA M (d + j)
      · refine Or.inr ⟨(), fun i hi => ?_, by rw [if_pos (nI_lt q (by omega)), nI_1]⟩
        by_cases w : i = j
        · rw [w]; exact q
        · exact hI i (by omega)
      · refine Or.inl ?_
        rw [if_neg (nI_nlt (by omega) (by omega))]
        have : rOk M d n = false := by
          cases e : rOk M d n
          · rfl
          · exact absurd (rOk_j e hj) q
        rw [this]
        rfl
    · show f_Mo_isAltRow_L12 N m1 _ (f + 1) (nI (qD M - d)) = _
      rw [f_Mo_isAltRow_L12, e18, e24, pk_sub hd, if_pos (nI_le (Nat.le_refl _) (by omega))]
      have h1 : (List.range (qD M - d)).all (fun j => decide (ro n j < qA M (d + j))) = true := List.all_eq_true.mpr (fun j hj => decide_eq_true (hI j (List.mem_range.mp hj)))
      have : rOk M d n = true := by
        unfold rOk
        rw [h1, Bool.true_and]
        exact eg
      rw [this]
      rfl
theorem tR_jdigit {n j : Nat} (hn : n < 2 ^ 31) (hj : j < 15) : isr (nI n) (2 * nI j) &&& 3 = nI (ro n j) := by
  rw [show (2 : Int32) * nI j = nI (2 * j) from pk_mul 2 j, isr_n hn (by omega), nI_a3, p4]
  rfl
theorem tR_jloop (hM : qOk M) (hN : 1000000 ≤ N) {m : Mm} {d n k : Nat} (hX : CxR M d m) (hr : rOk M d n = true) (hk : k < 2 ^ 31) (K : Int64 → Int32 → Option (Int32 × Mm)) : ∀ (r j c fuel : Nat), d + j + r = qD M → r < fuel → Ds M (qO M) (d + j) c → f_Mo_judge_L42 N (nI n) (nI k) m K fuel (rz c) (nI j) = (match (jrun M n k d r j c).1 with
    | none => K (rz (jrun M n k d r j c).2) (nI (qD M - d))
    | some i => some (nI i, m)) := by
  intro r
  have hD := hM.2.1
  have hn := rOk_n hr
  have hW := hX.1
  induction r with
  | zero =>
    intro j c fuel hj hf hc
    obtain ⟨f, rfl⟩ : ∃ q, fuel = q + 1 := ⟨fuel - 1, by omega⟩
    rw [f_Mo_judge_L42, hW.2.1, hX.2, pk_sub (by omega), if_pos (nI_le (by omega) (by omega)), show qD M - d = j by omega]
    rfl
  | succ r ih =>
    intro j c fuel hj hf hc
    obtain ⟨f, rfl⟩ : ∃ q, fuel = q + 1 := ⟨fuel - 1, by omega⟩
    have hd : d + j < qD M := by omega
    have ha := rOk_j hr (show j < qD M - d by omega)
    have hg4 := ro_lt k j
    have hq := hM.2.2.2.2.2.2.2 _ _ hd ha
    have hO := hM.2.2.1
    have hH := hM.1
    rw [f_Mo_judge_L42, hW.2.1, hX.2, pk_sub (by omega), if_neg (nI_ge (by omega) (by omega)), nI_add, tR_jdigit hn (by omega), tR_jdigit hk (by omega), tR_alt1 hM hW hd ha, b1_s, tR_alt2 hM hW hd ha, hW.2.2.1]
    simp only [jn, b1_s]
    rw [jrun]
    unfold jst
    by_cases k0 : qK M (d + j) (ro n j) = 0
    · have hs := hq.2.2.1 k0
      have eqT : qT M (d + j) (ro n j) = nI (qG M (d + j) (ro n j)) := by unfold qT; rw [if_neg (by omega)]
      rw [if_pos ((nI_k0 hq.2.1).mpr k0), tR_mayGive hM hc.1.2.1 hg4 (by omega), b1_s, if_pos k0]
      by_cases w : may M c (ro k j) (qO M) = true
      · have hds2 : Ds M (qO M) (d + (j + 1)) (c + 8 ^ (4 * qG M (d + j) (ro n j) + ro k j)) := Ds_give hc.1 (by have := hc.2.1; omega) (by omega) hc.2.2 hs hg4 w
        rw [w, if_neg (by simp [tf]), if_neg (fun q => by have := (nI_k1 hq.2.1).mp q; omega), if_pos ((nI_k0 hq.2.1).mpr k0), eqT, t_Mone hs hg4, b1_s, rz_give hc (Or.inl (by omega)) hs hg4, nI_1, if_pos rfl]
        exact ih (j + 1) _ f (by omega) (by omega) hds2
      · have w' : may M c (ro k j) (qO M) = false := by simpa using w
        rw [w', if_pos (by simp [tf]), if_neg (by simp)]
    · have hz : ¬ nI (qK M (d + j) (ro n j)) = 0 := fun q => k0 ((nI_k0 hq.2.1).mp q)
      rw [if_neg hz, if_neg k0]
      by_cases w : ro k j = 0
      · rw [if_pos (by rw [w]; rfl), if_pos w]
        have hds := Ds_pas hM hc hd ha
        by_cases k1 : qK M (d + j) (ro n j) = 1
        · have hg := hq.2.2.2 k1
          have er : rz c ||| lsl 1 (36 + qT M (d + j) (ro n j)) = rz (pas M c (d + j) (ro n j)) := by
            unfold qT pas
            rw [if_neg (by omega), if_pos k1, show (36 : Int32) + nI (qG M (d + j) (ro n j)) = nI (36 + qG M (d + j) (ro n j)) from by rw [show (36 : Int32) = nI 36 from rfl, nI_add], show (1 : Int64) = lN 1 from rfl, lsl_n 1 (by omega), Nat.one_mul, rz_or (by omega)]
          rw [if_pos ((nI_k1 hq.2.1).mpr k1), if_neg hz, er, nI_1]
          exact ih (j + 1) _ f (by omega) (by omega) hds
        · have er : pas M c (d + j) (ro n j) = c := by unfold pas; rw [if_neg k1]
          rw [if_neg (fun q => k1 ((nI_k1 hq.2.1).mp q)), if_neg hz, nI_1, er]
          rw [er] at hds
          exact ih (j + 1) _ f (by omega) (by omega) hds
      · rw [if_neg (nI_ne0 (by omega) (by omega)), if_neg w]
end RROWS
