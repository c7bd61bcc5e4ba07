/-! THE REFERENCE: layers of states, one behind another. -/
abbrev Gh : Type := Nat × (Nat → Nat) × (Nat → Nat)
def InG (G : Gh) (i c : Nat) : Prop := ∃ k, k < G.1 ∧ G.2.2 k = i ∧ G.2.1 k = c
def Ext (G G' : Gh) : Prop := G.1 ≤ G'.1 ∧ ∀ k, k < G.1 → G'.2.1 k = G.2.1 k ∧ G'.2.2 k = G.2.2 k
theorem Ext.refl {G : Gh} : Ext G G := ⟨Nat.le_refl _, fun _ _ => ⟨rfl, rfl⟩⟩
theorem Ext.trans {G G1 G2 : Gh} (h : Ext G G1) (h' : Ext G1 G2) : Ext G G2 := ⟨Nat.le_trans h.1 h'.1, fun k hk => by
  have a := h.2 k hk
  have b := h'.2 k (Nat.lt_of_lt_of_le hk h.1)
  exact ⟨b.1.trans a.1, b.2.trans a.2⟩⟩
theorem Ext.inG {G G' : Gh} (h : Ext G G') {i c : Nat} (hi : InG G i c) : InG G' i c := by
  obtain ⟨k, h1, h2, h3⟩ := hi
  have a := h.2 k h1
  exact ⟨k, Nat.lt_of_lt_of_le h1 h.1, a.2.trans h2, a.1.trans h3⟩
/-- layers below j are done, layer j is being laid; days over at layer 0: ov -/
def BI (M : Mt) (ho ov : Nat) (m : Mm) (G : Gh) (A : Nat → Nat) (j : Nat) : Prop := BT m G.1 G.2.1 G.2.2 A ∧ (∀ k, k < G.1 → G.2.2 k ≤ j ∧ Ds M ho (ov + G.2.2 k) (G.2.1 k) ∧ (∀ i, i < j → (G.2.2 k = i ↔ A i ≤ k ∧ k < A (i + 1))) ∧ (G.2.2 k = j ↔ A j ≤ k)) ∧ A j ≤ G.1 ∧ ∀ i, i < j → A i ≤ A (i + 1) ∧ A (i + 1) ≤ A j
section RLAYS
variable {N : Nat} {M : Mt} {ho ov : Nat}
theorem BI_n (hM : qOk M) (hE : qE M) {m : Mm} {G : Gh} {A : Nat → Nat} {j : Nat} (hB : BI M ho ov m G A j) (hj : ov + j ≤ 6) : G.1 ≤ 108528 := by
  refine pigeon 108528 G.1 (fun k => plD M (G.2.1 k) (ov + G.2.2 k)) (fun k hk => ?_) (fun k k' hk hk' e => ?_)
  · have h := hB.2.1 k hk
    exact plD_b hM hE (h.2.1.1.dm hM) h.2.1.2.1 (by omega)
  · have h := hB.2.1 k hk
    have h' := hB.2.1 k' hk'
    obtain ⟨e1, e2⟩ := plD_inj hM (h.2.1.1.dm hM) h.2.1.2.1 (by omega) (h'.2.1.1.dm hM) h'.2.1.2.1 (by omega) e
    exact hB.1.2.2.2.2.2.2 k k' hk hk' (by omega) e1
theorem BI_lay (hM : qOk M) (hE : qE M) (hN : 1000000 ≤ N) {m : Mm} {G : Gh} {A : Nat → Nat} {j c : Nat} (hB : BI M ho ov m G A j) (hj : ov + j ≤ 6) (hc : Ds M ho (ov + j) c) : ∃ m' G', f_Mo_lays N (rz c) (nI (A j)) m = some m' ∧ BI M ho ov m' G' A j ∧ GL m m' ∧ Ext G G' ∧ InG G' j c ∧ ∀ i c', InG G' i c' → InG G i c' ∨ i = j ∧ c' = c := by
  have hn := BI_n hM hE hB hj
  obtain ⟨m', n', L', ly', e, h1, h2, h3, h4, h5, ⟨k0, q1, q2, q3⟩, h7⟩ := tR_lays hN hB.1 hc.1.1 hB.2.2.1 (fun k hk hk2 => (hB.2.1 k hk2).2.2.2.mpr hk) (by omega) (fun k hk => (hB.2.1 k hk).1) (fun k hk hl => (hB.2.1 k hk).2.2.2.mp hl)
  have hA := hB.2.2.1
  refine ⟨m', (n', L', ly'), e, ⟨h1, fun k hk => ?_, Nat.le_trans hA h3, hB.2.2.2⟩, h2, ⟨h3, h5⟩, ?_, ?_⟩
  · by_cases q : k < G.1
    · have a := h5 k q
      have b := hB.2.1 k q
      show ly' k ≤ j ∧ Ds M ho (ov + ly' k) (L' k) ∧ (∀ i, i < j → (ly' k = i ↔ A i ≤ k ∧ k < A (i + 1))) ∧ (ly' k = j ↔ A j ≤ k)
      rw [a.1, a.2]
      exact b
    · have a := h7 k (by omega) hk
      show ly' k ≤ j ∧ Ds M ho (ov + ly' k) (L' k) ∧ (∀ i, i < j → (ly' k = i ↔ A i ≤ k ∧ k < A (i + 1))) ∧ (ly' k = j ↔ A j ≤ k)
      rw [a.1, a.2.1]
      refine ⟨Nat.le_refl _, hc, fun i hi => ⟨fun w => by omega, fun w => ?_⟩, fun _ => by omega, fun _ => rfl⟩
      have := (hB.2.2.2 i hi).2
      omega
  · exact ⟨k0, q2, by
      by_cases q : k0 < G.1
      · have a := h5 k0 q
        show ly' k0 = j
        rw [a.2]
        exact (hB.2.1 k0 q).2.2.2.mpr q1
      · exact (h7 k0 (by omega) q2).2.1, q3⟩
  · intro i c' ⟨k, r1, r2, r3⟩
    by_cases q : k < G.1
    · have a := h5 k q
      exact Or.inl ⟨k, q, by rw [← a.2]; exact r2, by rw [← a.1]; exact r3⟩
    · have a := h7 k (by omega) r1
      have r2' : ly' k = i := r2
      have r3' : L' k = c' := r3
      exact Or.inr ⟨by rw [← r2', a.2.1], by rw [← r3', a.1]⟩
/-- what the layers' loops read and leave -/
def CxR (M : Mt) (ov : Nat) (m : Mm) : Prop := RW m M ∧ mI m 0 24 = nI ov
theorem GL.cxr {m m' : Mm} (h : GL m m') (hc : CxR M ov m) : CxR M ov m' := ⟨RW_of (fun k hk => h.1 0 k (by omega)) (fun a ha => h.2.2.1 a (by omega)) hc.1, (h.1 0 24 (by omega)).trans hc.2⟩
/-- what comes of a state by an alt -/
def Suc (M : Mt) (ho c d a c' : Nat) : Prop := if qK M d a = 0 then ∃ to, to < 4 ∧ may M c to ho = true ∧ c' = c + 8 ^ (4 * qG M d a + to) else c' = pas M c d a
theorem Ds_suc (hM : qOk M) {c d a c' : Nat} (h : Ds M ho d c) (hd : d < qD M) (ha : a < qA M d) (hs : Suc M ho c d a c') : Ds M ho (d + 1) c' := by
  have hD := hM.2.1
  unfold Suc at hs
  split at hs
  · next q =>
    obtain ⟨to, h1, h2, rfl⟩ := hs
    have := h.2.1
    exact Ds_give h.1 (by omega) (by omega) h.2.2 ((hM.2.2.2.2.2.2.2 d a hd ha).2.2.1 q) h1 h2
  · rw [hs]
    exact Ds_pas hM h hd ha
theorem rz_give {c s to d : Nat} (hc : Ds M ho d c) (hd : d < 6 ∨ tt c < 6) (hs : s < 3) (ht : to < 4) : rz c + lN (8 ^ (3 * to + s)) = rz (c + 8 ^ (4 * s + to)) := rz_add hc.1.1 hs ht (am7 hs ht (by have := hc.2.1; omega))
/-- the things that an alt brings, laid -/
theorem tR_lay245 (hM : qOk M) (hE : qE M) (hN : 1000000 ≤ N) (h3 : ho ≤ 3) {G : Gh} {A : Nat → Nat} {m : Mm} {i k c a : Nat} (hj : ov + (i + 1) ≤ qD M) (hc : Ds M ho (ov + i) c) (ha : a < qA M (ov + i)) (hk : qK M (ov + i) a = 0) (hB : BI M ho ov m G A (i + 1)) (hX : CxR M ov m) (K : Int32 → Mm → Option Mm) : ∃ m' G', f_Mo_laysAll_L245 N (nI ho) (nI i) (nI (A (i + 1))) (nI k) (nI a) (rz c) 0 K N 0 m = K 4 m' ∧ BI M ho ov m' G' A (i + 1) ∧ GL m m' ∧ Ext G G' ∧ (∀ c', Suc M ho c (ov + i) a c' → InG G' (i + 1) c') ∧ ∀ i' c', InG G' i' c' → InG G i' c' ∨ i' = i + 1 ∧ Suc M ho c (ov + i) a c' := by
  have hD := hM.2.1
  have hd : ov + i < qD M := by omega
  have hs := (hM.2.2.2.2.2.2.2 _ a hd ha).2.2.1 hk
  obtain ⟨⟨m', G'⟩, ⟨b1, b2, b3, b4, b5⟩, e⟩ := loopE (fun n (x : Mm × Gh) to => f_Mo_laysAll_L245 N (nI ho) (nI i) (nI (A (i + 1))) (nI k) (nI a) (rz c) 0 K n (nI to) x.1) (fun x to => BI M ho ov x.1 x.2 A (i + 1) ∧ GL m x.1 ∧ Ext G x.2 ∧ (∀ t, t < to → may M c t ho = true → InG x.2 (i + 1) (c + 8 ^ (4 * qG M (ov + i) a + t))) ∧ ∀ i' c', InG x.2 i' c' → InG G i' c' ∨ i' = i + 1 ∧ Suc M ho c (ov + i) a c') 4 (fun x => K 4 x.1) (fun n x to ht hI => by
    show ∃ x', _ ∧ f_Mo_laysAll_L245 N (nI ho) (nI i) (nI (A (i + 1))) (nI k) (nI a) (rz c) 0 K (n + 1) (nI to) x.1 = _
    obtain ⟨b1, b2, b3, b4, b5⟩ := hI
    have hX' := b2.cxr hX
    rw [f_Mo_laysAll_L245, if_neg (n3lt ht), if_pos rfl, tR_mayGive hM hc.1.2.1 ht (by omega), b1_s]
    cases e1 : may M c to ho
    · refine ⟨x, ⟨b1, b2, b3, fun t h1 h2 => ?_, b5⟩, by rw [if_pos (by simp [tf]), nI_1]⟩
      by_cases q : t = to
      · rw [q, e1] at h2; cases h2
      · exact b4 t (by omega) h2
    · have hDs := Ds_give (s := qG M (ov + i) a) hc.1 (show tt c < ov + i + 1 by have := hc.2.1; omega) (by omega) hc.2.2 hs ht e1
      obtain ⟨m1, G1, l1, l2, l3, l4, l5, l6⟩ := BI_lay hM hE hN b1 (by omega) hDs
      refine ⟨(m1, G1), ⟨l2, b2.trans l3, b3.trans l4, fun t h1 h2 => ?_, fun i' c' hi' => ?_⟩, ?_⟩
      · by_cases q : t = to
        · rw [q]; exact l5
        · exact l4.inG (b4 t (by omega) h2)
      · rcases l6 i' c' hi' with w | ⟨w1, w2⟩
        · exact b5 i' c' w
        · refine Or.inr ⟨w1, ?_⟩
          unfold Suc
          rw [if_pos hk]
          exact ⟨to, ht, e1, w2⟩
      · rw [if_neg (by simp [tf]), hX'.2, nI_add, tR_alt2 hM hX'.1 hd ha, b1_s]
        unfold qT
        rw [if_neg (by omega), t_Mone hs ht, b1_s, rz_give hc (Or.inl (by omega)) hs ht, l1, b3_s, nI_1]) (fun n x hI => by
    show f_Mo_laysAll_L245 N (nI ho) (nI i) (nI (A (i + 1))) (nI k) (nI a) (rz c) 0 K (n + 1) (nI 4) x.1 = _
    rw [f_Mo_laysAll_L245, if_pos n3lt4]
    rfl) 4 N (m, G) 0 (by omega) (by omega) ⟨hB, GL.refl, Ext.refl, fun t ht => by omega, fun i' c' h => Or.inl h⟩
  refine ⟨m', G', e, b1, b2, b3, fun c' hc' => ?_, b5⟩
  unfold Suc at hc'
  rw [if_pos hk] at hc'
  obtain ⟨t, h1, h2, rfl⟩ := hc'
  exact b4 t h1 h2
theorem BT_A {m : Mm} {n : Nat} {L ly A A' : Nat → Nat} (h : ∀ k, k < n → A' (ly k) = A (ly k)) (hB : BT m n L ly A) : BT m n L ly A' := by
  refine ⟨hB.1, hB.2.1, hB.2.2.1, hB.2.2.2.1, hB.2.2.2.2.1, fun k hk => ?_, hB.2.2.2.2.2.2⟩
  rw [h k hk]
  exact hB.2.2.2.2.2.1 k hk
theorem BI_next {m : Mm} {G : Gh} {A : Nat → Nat} {j : Nat} (hB : BI M ho ov m G A j) : BI M ho ov m G (fun x => if x = j + 1 then G.1 else A x) (j + 1) := by
  have e1 : ∀ x, x ≤ j → (if x = j + 1 then G.1 else A x) = A x := fun x hx => if_neg (by omega)
  have e2 : (if j + 1 = j + 1 then G.1 else A (j + 1)) = G.1 := if_pos rfl
  refine ⟨BT_A (fun k hk => e1 _ (hB.2.1 k hk).1) hB.1, fun k hk => ?_, ?_, fun i hi => ?_⟩
  · obtain ⟨a1, a2, a3, a4⟩ := hB.2.1 k hk
    refine ⟨by omega, a2, fun i hi => ?_, ?_⟩
    · show G.2.2 k = i ↔ (if i = j + 1 then G.1 else A i) ≤ k ∧ k < (if i + 1 = j + 1 then G.1 else A (i + 1))
      rw [e1 i (by omega)]
      by_cases q : i = j
      · subst q
        rw [e2, a4]
        exact ⟨fun w => ⟨w, hk⟩, fun w => w.1⟩
      · rw [e1 (i + 1) (by omega)]
        exact a3 i (by omega)
    · show G.2.2 k = j + 1 ↔ (if j + 1 = j + 1 then G.1 else A (j + 1)) ≤ k
      rw [e2]
      omega
  · show (if j + 1 = j + 1 then G.1 else A (j + 1)) ≤ G.1
    rw [e2]
    exact Nat.le_refl _
  · show (if i = j + 1 then G.1 else A i) ≤ (if i + 1 = j + 1 then G.1 else A (i + 1)) ∧ (if i + 1 = j + 1 then G.1 else A (i + 1)) ≤ (if j + 1 = j + 1 then G.1 else A (j + 1))
    rw [e1 i (by omega), e2]
    by_cases q : i = j
    · subst q
      rw [e2]
      exact ⟨hB.2.2.1, Nat.le_refl _⟩
    · rw [e1 (i + 1) (by omega)]
      have := hB.2.2.2 i (by omega)
      have := hB.2.2.1
      omega
theorem BI_m {m m' : Mm} {G : Gh} {A : Nat → Nat} {j : Nat} (h1 : m'.1 0 40 = m.1 0 40) (h3 : m'.2.2.1 20 = m.2.2.1 20) (h4 : m'.2.2.2 17 = m.2.2.2 17) (hB : BI M ho ov m G A j) : BI M ho ov m' G A j := by
  have e1 : mI m' 0 40 = mI m 0 40 := h1
  have e2 : ∀ i, mX m' 20 i = mX m 20 i := fun i => by unfold mX; rw [h3]
  have e3 : ∀ i, mYy m' 17 i = mYy m 17 i := fun i => by unfold mYy; rw [h4]
  unfold BI BT at *
  simp only [e1, e2, e3]
  exact hB
end RLAYS
