/-! KNOWN: the reference's states by a row. -/
def RF (M : Mt) (n d c : Nat) : Nat → Nat → Prop
  | 0, c' => c' = c
  | j + 1, c' => ∃ c1, RF M n d c j c1 ∧ Suc M (qO M) c1 (d + j) (ro n j) c'
section RKNOWN
variable {N : Nat} {M : Mt} {d : Nat}
theorem tR_k2 (hN : 1000000 ≤ N) {m : Mm} {x1 : Int32} (K : Int32 → Mm → Option (Int32 × Mm)) : ∃ m', f_Mo_knownBy_L2 N x1 K N 0 m = K (nI 524288) m' ∧ (∀ i, i < 524288 → mX m' 20 i = 0) ∧ m'.1 = m.1 ∧ m'.2.1 = m.2.1 ∧ m'.2.2.2 = m.2.2.2 ∧ ∀ a, a ≠ 20 → m'.2.2.1 a = m.2.2.1 a := by
  obtain ⟨m', ⟨b1, b2, b3, b4, b5⟩, e⟩ := loopE (fun n (x : Mm) i => f_Mo_knownBy_L2 N x1 K n (nI i) x) (fun x i => (∀ j, j < i → mX x 20 j = 0) ∧ x.1 = m.1 ∧ x.2.1 = m.2.1 ∧ x.2.2.2 = m.2.2.2 ∧ ∀ a, a ≠ 20 → x.2.2.1 a = m.2.2.1 a) 524288 (fun x => K (nI 524288) x) (fun n x i hi hI => by
    show ∃ x', _ ∧ f_Mo_knownBy_L2 N x1 K (n + 1) (nI i) x = _
    obtain ⟨b1, b2, b3, b4, b5⟩ := hI
    refine ⟨vX x 20 i 0, ⟨fun j hj => ?_, b2, b3, b4, fun a ha => ?_⟩, ?_⟩
    · show u2 x.2.2.1 20 i 0 20 j = 0
      rw [u2_eq]
      split
      · rfl
      · exact b1 j (by omega)
    · rw [← b5 a ha]
      exact vX_o ha
    · rw [f_Mo_knownBy_L2, if_neg (show ¬ (524288 : Int32) ≤ nI i from nI_ge (b := 524288) hi (by omega)), ck_t (nI_in hi (by omega)), nI_clamp (by omega), nI_1]) (fun n x hI => by
    show f_Mo_knownBy_L2 N x1 K (n + 1) (nI 524288) x = _
    rw [f_Mo_knownBy_L2, if_pos (show (524288 : Int32) ≤ nI 524288 from nI_le (a := 524288) (Nat.le_refl _) (by omega))]) 524288 N m 0 (by omega) (by omega) ⟨fun j hj => by omega, rfl, rfl, rfl, fun _ _ => rfl⟩
  exact ⟨m', e, b1, b2, b3, b4, b5⟩
theorem tR_k146 (hM : qOk M) (hE : qE M) (hN : 1000000 ≤ N) {G : Gh} {A : Nat → Nat} {m : Mm} {i c a : Nat} {x1 x7 : Int32} (hj : d + (i + 1) ≤ qD M) (hc : Ds M (qO M) (d + i) c) (ha : a < qA M (d + i)) (hk : qK M (d + i) a = 0) (hB : BI M (qO M) d m G A (i + 1)) (hX : CxR M d m) (K : Int32 → Mm → Option (Int32 × Mm)) : ∃ m' G', f_Mo_knownBy_L146 N x1 (nI i) (nI (A (i + 1))) (nI a) 0 x7 (rz c) K N 0 m = K 4 m' ∧ BI M (qO M) d m' G' A (i + 1) ∧ GL m m' ∧ Ext G G' ∧ (∀ c', Suc M (qO M) c (d + i) a c' → InG G' (i + 1) c') ∧ ∀ i' c', InG G' i' c' → InG G i' c' ∨ i' = i + 1 ∧ Suc M (qO M) c (d + i) a c' := by
  have hD := hM.2.1
  have hO := hM.2.2.1
  have hd : d + i < qD M := by omega
  have hs := (hM.2.2.2.2.2.2.2 _ a hd ha).2.2.1 hk
  obtain ⟨⟨m', G'⟩, ⟨b1, b2, b3, b4, b5⟩, e⟩ := loopE (fun n (x : Mm × Gh) to => f_Mo_knownBy_L146 N x1 (nI i) (nI (A (i + 1))) (nI a) 0 x7 (rz c) K n (nI to) x.1) (fun x to => BI M (qO M) d x.1 x.2 A (i + 1) ∧ GL m x.1 ∧ Ext G x.2 ∧ (∀ t, t < to → may M c t (qO M) = true → InG x.2 (i + 1) (c + 8 ^ (4 * qG M (d + i) a + t))) ∧ ∀ i' c', InG x.2 i' c' → InG G i' c' ∨ i' = i + 1 ∧ Suc M (qO M) c (d + i) a c') 4 (fun x => K 4 x.1) (fun n x to ht hI => by
    show ∃ x', _ ∧ f_Mo_knownBy_L146 N x1 (nI i) (nI (A (i + 1))) (nI a) 0 x7 (rz c) K (n + 1) (nI to) x.1 = _
    obtain ⟨b1, b2, b3, b4, b5⟩ := hI
    have hX' := b2.cxr hX
    rw [f_Mo_knownBy_L146, if_neg (n3lt ht), if_pos rfl, hX'.1.2.2.1, tR_mayGive hM hc.1.2.1 ht (by omega), b1_s]
    cases e1 : may M c to (qO M)
    · refine ⟨x, ⟨b1, b2, b3, fun t h1 h2 => ?_, b5⟩, by rw [if_pos (by simp [tf]), nI_1]⟩
      by_cases q : t = to
      · rw [q, e1] at h2; cases h2
      · exact b4 t (by omega) h2
    · have hDs := Ds_give (s := qG M (d + i) a) hc.1 (show tt c < d + i + 1 by have := hc.2.1; omega) (by omega) hc.2.2 hs ht e1
      obtain ⟨m1, G1, l1, l2, l3, l4, l5, l6⟩ := BI_lay hM hE hN b1 (by omega) hDs
      refine ⟨(m1, G1), ⟨l2, b2.trans l3, b3.trans l4, fun t h1 h2 => ?_, fun i' c' hi' => ?_⟩, ?_⟩
      · by_cases q : t = to
        · rw [q]; exact l5
        · exact l4.inG (b4 t (by omega) h2)
      · rcases l6 i' c' hi' with w | ⟨w1, w2⟩
        · exact b5 i' c' w
        · refine Or.inr ⟨w1, ?_⟩
          unfold Suc
          rw [if_pos hk]
          exact ⟨to, ht, e1, w2⟩
      · rw [if_neg (by simp [tf]), hX'.2, nI_add, tR_alt2 hM hX'.1 hd ha, b1_s]
        unfold qT
        rw [if_neg (by omega), t_Mone hs ht, b1_s, rz_give hc (Or.inl (by omega)) hs ht, l1, b3_s, nI_1]) (fun n x hI => by
    show f_Mo_knownBy_L146 N x1 (nI i) (nI (A (i + 1))) (nI a) 0 x7 (rz c) K (n + 1) (nI 4) x.1 = _
    rw [f_Mo_knownBy_L146, if_pos n3lt4]
    rfl) 4 N (m, G) 0 (by omega) (by omega) ⟨hB, GL.refl, Ext.refl, fun t ht => by omega, fun i' c' h => Or.inl h⟩
  refine ⟨m', G', e, b1, b2, b3, fun c' hc' => ?_, b5⟩
  unfold Suc at hc'
  rw [if_pos hk] at hc'
  obtain ⟨t, h1, h2, rfl⟩ := hc'
  exact b4 t h1 h2
/-- one layer more, by the row's alt -/
theorem tR_k84 (hM : qOk M) (hE : qE M) (hN : 1000000 ≤ N) {G : Gh} {A : Nat → Nat} {m : Mm} {i a : Nat} {x1 : Int32} (hj : d + (i + 1) ≤ qD M) (ha : a < qA M (d + i)) (hB : BI M (qO M) d m G A (i + 1)) (hAG : A (i + 1) = G.1) (hX : CxR M d m) (K : Int32 → Mm → Option (Int32 × Mm)) : ∃ m' G', f_Mo_knownBy_L84 N x1 (nI i) (nI (A (i + 1))) (nI a) (nI (qK M (d + i) a)) K N (nI (A i)) m = K (nI (A (i + 1))) m' ∧ BI M (qO M) d m' G' A (i + 1) ∧ GL m m' ∧ Ext G G' ∧ ∀ i' c', InG G' i' c' ↔ InG G i' c' ∨ i' = i + 1 ∧ ∃ c, InG G i c ∧ Suc M (qO M) c (d + i) a c' := by
  have hD := hM.2.1
  have hO := hM.2.2.1
  have hd : d + i < qD M := by omega
  have hq := hM.2.2.2.2.2.2.2 _ a hd ha
  have hn := BI_n hM hE hB (by omega)
  have hAi := (hB.2.2.2 i (by omega)).1
  obtain ⟨⟨m', G'⟩, ⟨_, b1, b2, b3, b4, b5⟩, e⟩ := loopE (fun n (x : Mm × Gh) k => f_Mo_knownBy_L84 N x1 (nI i) (nI (A (i + 1))) (nI a) (nI (qK M (d + i) a)) K n (nI k) x.1) (fun x k => A i ≤ k ∧ BI M (qO M) d x.1 x.2 A (i + 1) ∧ GL m x.1 ∧ Ext G x.2 ∧ (∀ t c', A i ≤ t → t < k → Suc M (qO M) (G.2.1 t) (d + i) a c' → InG x.2 (i + 1) c') ∧ ∀ i' c', InG x.2 i' c' → InG G i' c' ∨ i' = i + 1 ∧ ∃ c, InG G i c ∧ Suc M (qO M) c (d + i) a c') (A (i + 1)) (fun x => K (nI (A (i + 1))) x.1) (fun n x k hk hI => by
    show ∃ x', _ ∧ f_Mo_knownBy_L84 N x1 (nI i) (nI (A (i + 1))) (nI a) (nI (qK M (d + i) a)) K (n + 1) (nI k) x.1 = _
    obtain ⟨hAk, b1, b2, b3, b4, b5⟩ := hI
    have hX' := b2.cxr hX
    have hkG : k < G.1 := by omega
    have hly : G.2.2 k = i := ((hB.2.1 k hkG).2.2.1 i (by omega)).mpr ⟨hAk, hk⟩
    have ey : mYy x.1 17 k = rz (G.2.1 k) := BI_y b1 b3 hkG
    have hDs : Ds M (qO M) (d + i) (G.2.1 k) := by
      have := (hB.2.1 k hkG).2.1
      rw [hly] at this
      exact this
    have hix : ix (nI k) 160000 := nI_in (by omega) (by omega)
    have fin : ∀ (m2 : Mm) (G2 : Gh), BI M (qO M) d m2 G2 A (i + 1) → GL x.1 m2 → Ext x.2 G2 → (∀ c', Suc M (qO M) (G.2.1 k) (d + i) a c' → InG G2 (i + 1) c') → (∀ i' c', InG G2 i' c' → InG x.2 i' c' ∨ i' = i + 1 ∧ Suc M (qO M) (G.2.1 k) (d + i) a c') → A i ≤ k + 1 ∧ BI M (qO M) d m2 G2 A (i + 1) ∧ GL m m2 ∧ Ext G G2 ∧ (∀ t c', A i ≤ t → t < k + 1 → Suc M (qO M) (G.2.1 t) (d + i) a c' → InG G2 (i + 1) c') ∧ ∀ i' c', InG G2 i' c' → InG G i' c' ∨ i' = i + 1 ∧ ∃ c, InG G i c ∧ Suc M (qO M) c (d + i) a c' := by
      intro m2 G2 c1 c2 c3 c4 c5
      refine ⟨by omega, c1, b2.trans c2, b3.trans c3, fun t c' h1 h2 h5 => ?_, fun i' c' h => ?_⟩
      · by_cases q : t = k
        · rw [q] at h5; exact c4 c' h5
        · exact c3.inG (b4 t c' h1 (by omega) h5)
      · rcases c5 i' c' h with w | ⟨w1, w2⟩
        · exact b5 i' c' w
        · exact Or.inr ⟨w1, G.2.1 k, ⟨k, hkG, hly, rfl⟩, w2⟩
    rw [f_Mo_knownBy_L84, if_neg (nI_ge hk (by omega))]
    simp only [ck_t hix, nI_clamp (show k < 2 ^ 31 by omega), jn]
    rw [ey, nI_1]
    by_cases k0 : qK M (d + i) a = 0
    · obtain ⟨m2, G2, c0, c1, c2, c3, c4, c5⟩ := tR_k146 (x1 := x1) (x7 := nI k) hM hE hN hj hDs ha k0 b1 hX' (fun z1 z2 => f_Mo_knownBy_L84 N x1 (nI i) (nI (A (i + 1))) (nI a) (nI (qK M (d + i) a)) K n (nI (k + 1)) z2)
      refine ⟨(m2, G2), fin m2 G2 c1 c2 c3 c4 c5, ?_⟩
      have hz : nI (qK M (d + i) a) = 0 := (nI_k0 hq.2.1).mpr k0
      rw [hz] at c0 ⊢
      rw [if_pos rfl, c0]
    · have hs : Ds M (qO M) (d + (i + 1)) (pas M (G.2.1 k) (d + i) a) := Ds_pas hM hDs hd ha
      obtain ⟨m2, G2, c0, c1, c2, c3, c4, c5⟩ := BI_lay hM hE hN b1 (by omega) hs
      have hz : ¬ nI (qK M (d + i) a) = 0 := fun w => k0 ((nI_k0 hq.2.1).mp w)
      refine ⟨(m2, G2), fin m2 G2 c1 c2 c3 (fun c' h => ?_) (fun i' c' h => ?_), ?_⟩
      · unfold Suc at h
        rw [if_neg k0] at h
        rw [h]; exact c4
      · rcases c5 i' c' h with w | ⟨w1, w2⟩
        · exact Or.inl w
        · refine Or.inr ⟨w1, ?_⟩
          unfold Suc
          rw [if_neg k0]
          exact w2
      · have ends : ∀ (z : Mm), f_Mo_knownBy_L146 N x1 (nI i) (nI (A (i + 1))) (nI a) (nI (qK M (d + i) a)) (nI k) (rz (G.2.1 k)) (fun z1 z2 => f_Mo_knownBy_L84 N x1 (nI i) (nI (A (i + 1))) (nI a) (nI (qK M (d + i) a)) K n (nI (k + 1)) z2) N 0 z = f_Mo_knownBy_L84 N x1 (nI i) (nI (A (i + 1))) (nI a) (nI (qK M (d + i) a)) K n (nI (k + 1)) z := by
          intro z
          obtain ⟨q, hq2⟩ : ∃ q, N = q + 1 := ⟨N - 1, by omega⟩
          conv => lhs; arg 10; rw [hq2]
          rw [f_Mo_knownBy_L146, if_neg (by decide), if_neg hz]
        rw [if_neg hz]
        by_cases k1 : qK M (d + i) a = 1
        · have hg := hq.2.2.2 k1
          have hH := hM.1
          rw [if_pos ((nI_k1 hq.2.1).mpr k1), hX'.2, nI_add, tR_alt2 hM hX'.1 hd ha, b1_s]
          have er : rz (G.2.1 k) ||| lsl 1 (36 + qT M (d + i) a) = rz (pas M (G.2.1 k) (d + i) a) := by
            unfold qT pas
            rw [if_neg (by omega), if_pos k1, show (36 : Int32) + nI (qG M (d + i) a) = nI (36 + qG M (d + i) a) from by rw [show (36 : Int32) = nI 36 from rfl, nI_add], show (1 : Int64) = lN 1 from rfl, lsl_n 1 (by omega), Nat.one_mul, rz_or (by omega)]
          rw [er, c0, b3_s, ends]
        · have er : pas M (G.2.1 k) (d + i) a = G.2.1 k := by unfold pas; rw [if_neg k1]
          rw [if_neg (fun w => k1 ((nI_k1 hq.2.1).mp w))]
          rw [er] at c0
          rw [c0, b3_s, ends]) (fun n x hI => by
    show f_Mo_knownBy_L84 N x1 (nI i) (nI (A (i + 1))) (nI a) (nI (qK M (d + i) a)) K (n + 1) (nI (A (i + 1))) x.1 = _
    rw [f_Mo_knownBy_L84, if_pos (nI_le (Nat.le_refl _) (by omega))]) (A (i + 1) - A i) N (m, G) (A i) (by omega) (by omega) ⟨Nat.le_refl _, hB, GL.refl, Ext.refl, fun t c' h1 h2 => by omega, fun i' c' h => Or.inl h⟩
  refine ⟨m', G', e, b1, b2, b3, fun i' c' => ⟨b5 i' c', fun h => ?_⟩⟩
  rcases h with h | ⟨rfl, c, hc, hsuc⟩
  · exact b3.inG h
  · obtain ⟨k, r1, r2, r3⟩ := hc
    have := ((hB.2.1 k r1).2.2.1 i (by omega)).mp r2
    rw [← r3] at hsuc
    exact b4 k c' this.1 this.2 hsuc
end RKNOWN
