/-! THE REFERENCE: all layers. -/
def PL (m m' : Mm) : Prop := (∀ a k, ¬ (a = 0 ∧ (k = 39 ∨ k = 40)) → m'.1 a k = m.1 a k) ∧ m'.2.1 = m.2.1 ∧ (∀ a, a ≠ 19 → a ≠ 20 → m'.2.2.1 a = m.2.2.1 a) ∧ ∀ a, a ≠ 17 → a ≠ 18 → m'.2.2.2 a = m.2.2.2 a
theorem PL.refl {m : Mm} : PL m m := ⟨fun _ _ _ => rfl, rfl, fun _ _ _ => rfl, fun _ _ _ => rfl⟩
theorem PL.trans {m m1 m2 : Mm} (h : PL m m1) (h' : PL m1 m2) : PL m m2 := ⟨fun a k q => (h'.1 a k q).trans (h.1 a k q), h'.2.1.trans h.2.1, fun a q1 q2 => (h'.2.2.1 a q1 q2).trans (h.2.2.1 a q1 q2), fun a q1 q2 => (h'.2.2.2 a q1 q2).trans (h.2.2.2 a q1 q2)⟩
theorem GL.pl {m m' : Mm} (h : GL m m') : PL m m' := ⟨fun a k q => h.1 a k (by omega), h.2.1, fun a _ q => h.2.2.1 a q, fun a q _ => h.2.2.2 a q⟩
section RLAYALL
variable {N : Nat} {M : Mt} {ho ov : Nat}
theorem PL.cxr {m m' : Mm} (h : PL m m') (hc : CxR M ov m) : CxR M ov m' := ⟨RW_of (fun k hk => h.1 0 k (by omega)) (fun a ha => h.2.2.1 a (by omega) (by omega)) hc.1, (h.1 0 24 (by omega)).trans hc.2⟩
theorem BI_y {m : Mm} {G G' : Gh} {A : Nat → Nat} {j k : Nat} (hB : BI M ho ov m G' A j) (hX : Ext G G') (hk : k < G.1) : mYy m 17 k = rz (G.2.1 k) := by
  have := (hB.1.2.2.1 k (Nat.lt_of_lt_of_le hk hX.1)).1
  rw [(hX.2 k hk).1] at this
  exact this
theorem tR_lay160 (hM : qOk M) (hE : qE M) (hN : 1000000 ≤ N) (h3 : ho ≤ 3) {G : Gh} {A : Nat → Nat} {m : Mm} {i k : Nat} (hj : ov + (i + 1) ≤ qD M) (hk : k < G.1) (hc : Ds M ho (ov + i) (G.2.1 k)) (hB : BI M ho ov m G A (i + 1)) (hX : CxR M ov m) (K : Int32 → Mm → Option Mm) : ∃ m' G', f_Mo_laysAll_L160 N (nI ho) (nI i) (nI (A (i + 1))) (nI k) K N 0 m = K (nI (qA M (ov + i))) m' ∧ BI M ho ov m' G' A (i + 1) ∧ GL m m' ∧ Ext G G' ∧ (∀ a c', a < qA M (ov + i) → Suc M ho (G.2.1 k) (ov + i) a c' → InG G' (i + 1) c') ∧ ∀ i' c', InG G' i' c' → InG G i' c' ∨ i' = i + 1 ∧ ∃ a, a < qA M (ov + i) ∧ Suc M ho (G.2.1 k) (ov + i) a c' := by
  have hD := hM.2.1
  have hd : ov + i < qD M := by omega
  have hn := BI_n hM hE hB (by omega)
  have hA := hM.2.2.2.2.2.2.1 _ hd
  generalize ec : G.2.1 k = c at hc
  obtain ⟨⟨m', G'⟩, ⟨b1, b2, b3, b4, b5⟩, e⟩ := loopE (fun n (x : Mm × Gh) a => f_Mo_laysAll_L160 N (nI ho) (nI i) (nI (A (i + 1))) (nI k) K n (nI a) x.1) (fun x a => BI M ho ov x.1 x.2 A (i + 1) ∧ GL m x.1 ∧ Ext G x.2 ∧ (∀ t c', t < a → Suc M ho c (ov + i) t c' → InG x.2 (i + 1) c') ∧ ∀ i' c', InG x.2 i' c' → InG G i' c' ∨ i' = i + 1 ∧ ∃ a, a < qA M (ov + i) ∧ Suc M ho c (ov + i) a c') (qA M (ov + i)) (fun x => K (nI (qA M (ov + i))) x.1) (fun n x a ha hI => by
    show ∃ x', _ ∧ f_Mo_laysAll_L160 N (nI ho) (nI i) (nI (A (i + 1))) (nI k) K (n + 1) (nI a) x.1 = _
    obtain ⟨b1, b2, b3, b4, b5⟩ := hI
    have hX' := b2.cxr hX
    have ey : mYy x.1 17 k = rz c := by rw [BI_y b1 b3 hk, ec]
    have hq := hM.2.2.2.2.2.2.2 _ a hd ha
    have fin : ∀ (m2 : Mm) (G2 : Gh), BI M ho ov m2 G2 A (i + 1) → GL x.1 m2 → Ext x.2 G2 → (∀ c', Suc M ho c (ov + i) a c' → InG G2 (i + 1) c') → (∀ i' c', InG G2 i' c' → InG x.2 i' c' ∨ i' = i + 1 ∧ Suc M ho c (ov + i) a c') → BI M ho ov m2 G2 A (i + 1) ∧ GL m m2 ∧ Ext G G2 ∧ (∀ t c', t < a + 1 → Suc M ho c (ov + i) t c' → InG G2 (i + 1) c') ∧ ∀ i' c', InG G2 i' c' → InG G i' c' ∨ i' = i + 1 ∧ ∃ a, a < qA M (ov + i) ∧ Suc M ho c (ov + i) a c' := by
      intro m2 G2 c1 c2 c3 c4 c5
      refine ⟨c1, b2.trans c2, b3.trans c3, fun t c' h1 h2 => ?_, fun i' c' h => ?_⟩
      · by_cases q : t = a
        · rw [q] at h2; exact c4 c' h2
        · exact c3.inG (b4 t c' (by omega) h2)
      · rcases c5 i' c' h with w | ⟨w1, w2⟩
        · exact b5 i' c' w
        · exact Or.inr ⟨w1, a, ha, w2⟩
    rw [f_Mo_laysAll_L160, hX'.2, nI_add, ck_t (nI_in (by omega) (by omega)), ck_t (nI_in (show k < 160000 by omega) (by omega)), nI_clamp (show ov + i < 2 ^ 31 by omega), nI_clamp (show k < 2 ^ 31 by omega), hX'.1.2.2.2.2.2.1 _ hd, if_neg (nI_ge ha (by omega)), tR_alt1 hM hX'.1 hd ha, b1_s, ey]
    simp only [jn]
    by_cases k0 : qK M (ov + i) a = 0
    · obtain ⟨m2, G2, c0, c1, c2, c3, c4, c5⟩ := tR_lay245 (k := k) hM hE hN h3 hj hc ha k0 b1 hX' (fun z1 z2 => f_Mo_laysAll_L160 N (nI ho) (nI i) (nI (A (i + 1))) (nI k) K n ((nI a + 1)) z2)
      refine ⟨(m2, G2), fin m2 G2 c1 c2 c3 c4 c5, ?_⟩
      rw [if_pos ((nI_k0 hq.2.1).mpr k0), show nI (qK M (ov + i) a) = 0 from (nI_k0 hq.2.1).mpr k0, c0, nI_1]
    · have hs : Ds M ho (ov + (i + 1)) (pas M c (ov + i) a) := Ds_pas hM hc hd ha
      obtain ⟨m2, G2, c0, c1, c2, c3, c4, c5⟩ := BI_lay hM hE hN b1 (by omega) hs
      have hz : ¬ nI (qK M (ov + i) a) = 0 := fun w => k0 ((nI_k0 hq.2.1).mp w)
      refine ⟨(m2, G2), fin m2 G2 c1 c2 c3 (fun c' h => ?_) (fun i' c' h => ?_), ?_⟩
      · unfold Suc at h
        rw [if_neg k0] at h
        rw [h]; exact c4
      · rcases c5 i' c' h with w | ⟨w1, w2⟩
        · exact Or.inl w
        · refine Or.inr ⟨w1, ?_⟩
          unfold Suc
          rw [if_neg k0]
          exact w2
      · have ends : ∀ (z : Mm), f_Mo_laysAll_L245 N (nI ho) (nI i) (nI (A (i + 1))) (nI k) (nI a) (rz c) (nI (qK M (ov + i) a)) (fun z1 z2 => f_Mo_laysAll_L160 N (nI ho) (nI i) (nI (A (i + 1))) (nI k) K n ((nI a + 1)) z2) N 0 z = f_Mo_laysAll_L160 N (nI ho) (nI i) (nI (A (i + 1))) (nI k) K n ((nI a + 1)) z := by
          intro z
          obtain ⟨q, hq2⟩ : ∃ q, N = q + 1 := ⟨N - 1, by omega⟩
          conv => lhs; arg 10; rw [hq2]
          rw [f_Mo_laysAll_L245, if_neg (by decide), if_neg hz]
        rw [if_neg hz]
        by_cases k1 : qK M (ov + i) a = 1
        · have hg := hq.2.2.2 k1
          have hH := hM.1
          rw [if_pos ((nI_k1 hq.2.1).mpr k1), tR_alt2 hM hX'.1 hd ha, b1_s]
          have er : rz c ||| lsl 1 (36 + qT M (ov + i) a) = rz (pas M c (ov + i) a) := by
            unfold qT pas
            rw [if_neg (by omega), if_pos k1, show (36 : Int32) + nI (qG M (ov + i) a) = nI (36 + qG M (ov + i) a) from by rw [show (36 : Int32) = nI 36 from rfl, nI_add], show (1 : Int64) = lN 1 from rfl, lsl_n 1 (by omega), Nat.one_mul, rz_or (by omega)]
          rw [er, c0, b3_s, ends, nI_1]
        · have er : pas M c (ov + i) a = c := by unfold pas; rw [if_neg k1]
          rw [if_neg (fun w => k1 ((nI_k1 hq.2.1).mp w))]
          rw [er] at c0
          rw [c0, b3_s, ends, nI_1]) (fun n x hI => by
    show f_Mo_laysAll_L160 N (nI ho) (nI i) (nI (A (i + 1))) (nI k) K (n + 1) (nI (qA M (ov + i))) x.1 = _
    have hX' := hI.2.1.cxr hX
    rw [f_Mo_laysAll_L160, hX'.2, nI_add, ck_t (nI_in (by omega) (by omega)), nI_clamp (show ov + i < 2 ^ 31 by omega), hX'.1.2.2.2.2.2.1 _ hd, if_pos (nI_le (Nat.le_refl _) (by omega))]) (qA M (ov + i)) N (m, G) 0 (by omega) (by omega) ⟨hB, GL.refl, Ext.refl, fun t c' ht => by omega, fun i' c' h => Or.inl h⟩
  exact ⟨m', G', e, b1, b2, b3, fun a c' h1 h2 => b4 a c' h1 h2, b5⟩
theorem tR_lay151 (hM : qOk M) (hE : qE M) (hN : 1000000 ≤ N) (h3 : ho ≤ 3) {G : Gh} {A : Nat → Nat} {m : Mm} {i : Nat} (hj : ov + (i + 1) ≤ qD M) (hB : BI M ho ov m G A (i + 1)) (hAG : A (i + 1) = G.1) (hX : CxR M ov m) (K : Int32 → Mm → Option Mm) : ∃ m' G', f_Mo_laysAll_L151 N (nI ho) (nI i) (nI (A (i + 1))) K N (nI (A i)) m = K (nI (A (i + 1))) m' ∧ BI M ho ov m' G' A (i + 1) ∧ GL m m' ∧ Ext G G' ∧ (∀ c a c', InG G i c → a < qA M (ov + i) → Suc M ho c (ov + i) a c' → InG G' (i + 1) c') ∧ ∀ i' c', InG G' i' c' → InG G i' c' ∨ i' = i + 1 ∧ ∃ c a, InG G i c ∧ a < qA M (ov + i) ∧ Suc M ho c (ov + i) a c' := by
  have hD := hM.2.1
  have hn := BI_n hM hE hB (by omega)
  have hAi := (hB.2.2.2 i (by omega)).1
  obtain ⟨⟨m', G'⟩, ⟨_, b1, b2, b3, b4, b5⟩, e⟩ := loopE (fun n (x : Mm × Gh) k => f_Mo_laysAll_L151 N (nI ho) (nI i) (nI (A (i + 1))) K n (nI k) x.1) (fun x k => A i ≤ k ∧ BI M ho ov x.1 x.2 A (i + 1) ∧ GL m x.1 ∧ Ext G x.2 ∧ (∀ t a c', A i ≤ t → t < k → a < qA M (ov + i) → Suc M ho (G.2.1 t) (ov + i) a c' → InG x.2 (i + 1) c') ∧ ∀ i' c', InG x.2 i' c' → InG G i' c' ∨ i' = i + 1 ∧ ∃ c a, InG G i c ∧ a < qA M (ov + i) ∧ Suc M ho c (ov + i) a c') (A (i + 1)) (fun x => K (nI (A (i + 1))) x.1) (fun n x k hk hI => by
    show ∃ x', _ ∧ f_Mo_laysAll_L151 N (nI ho) (nI i) (nI (A (i + 1))) K (n + 1) (nI k) x.1 = _
    obtain ⟨hAk, b1, b2, b3, b4, b5⟩ := hI
    have hX' := b2.cxr hX
    have hkG : k < G.1 := by omega
    have hk2 : k < x.2.1 := Nat.lt_of_lt_of_le hkG b3.1
    · have hly : G.2.2 k = i := ((hB.2.1 k hkG).2.2.1 i (by omega)).mpr ⟨hAk, hk⟩
      have hDs : Ds M ho (ov + i) (x.2.2.1 k) := by
        have := (hB.2.1 k hkG).2.1
        rw [hly] at this
        rw [(b3.2 k hkG).1]
        exact this
      obtain ⟨m2, G2, c0, c1, c2, c3, c4, c5⟩ := tR_lay160 hM hE hN h3 hj hk2 hDs b1 hX' (fun z1 z2 => f_Mo_laysAll_L151 N (nI ho) (nI i) (nI (A (i + 1))) K n ((nI k + 1)) z2)
      rw [(b3.2 k hkG).1] at c4 c5
      refine ⟨(m2, G2), ⟨by omega, c1, b2.trans c2, b3.trans c3, fun t a c' h1 h2 h4 h5 => ?_, fun i' c' h => ?_⟩, ?_⟩
      · by_cases q : t = k
        · rw [q] at h5; exact c4 a c' h4 h5
        · exact c3.inG (b4 t a c' h1 (by omega) h4 h5)
      · rcases c5 i' c' h with w | ⟨w1, a, w2, w3⟩
        · exact b5 i' c' w
        · exact Or.inr ⟨w1, G.2.1 k, a, ⟨k, hkG, hly, rfl⟩, w2, w3⟩
      · rw [f_Mo_laysAll_L151, if_neg (nI_ge hk (by omega)), c0, nI_1]
    ) (fun n x hI => by
    show f_Mo_laysAll_L151 N (nI ho) (nI i) (nI (A (i + 1))) K (n + 1) (nI (A (i + 1))) x.1 = _
    rw [f_Mo_laysAll_L151, if_pos (nI_le (Nat.le_refl _) (by omega))]) (A (i + 1) - A i) N (m, G) (A i) (by omega) (by omega) ⟨Nat.le_refl _, hB, GL.refl, Ext.refl, fun t a c' h1 h2 => by omega, fun i' c' h => Or.inl h⟩
  refine ⟨m', G', e, b1, b2, b3, fun c a c' h1 h2 h4 => ?_, b5⟩
  obtain ⟨k, r1, r2, r3⟩ := h1
  have := ((hB.2.1 k r1).2.2.1 i (by omega)).mp r2
  rw [← r3] at h4
  exact b4 k a c' this.1 this.2 h2 h4
end RLAYALL
