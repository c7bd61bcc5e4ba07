/-! KNOWN: what the reference answers of a row. -/
section RKNOWN2
variable {N : Nat} {M : Mt} {d : Nat}
theorem tR_k39 (hM : qOk M) (hE : qE M) (hN : 1000000 ≤ N) {m : Mm} {G0 : Gh} {A0 : Nat → Nat} {c n : Nat} {x1 : Int32} (hd : d ≤ qD M) (hr : rOk M d n = true) (hB : BI M (qO M) d m G0 A0 1) (hAG : A0 1 = G0.1) (hA0 : A0 0 = 0) (hG : ∀ c', InG G0 0 c' ↔ c' = c) (hX : CxR M d m) (hx : ∀ j, j < qD M - d → mX m 21 j = nI (ro n j)) (K : Int32 → Int32 → Mm → Option (Int32 × Mm)) : ∃ m' G A, f_Mo_knownBy_L39 N x1 K N 0 0 m = K (nI (A (qD M - d))) (nI (qD M - d)) m' ∧ BI M (qO M) d m' G A (qD M - d + 1) ∧ A (qD M - d + 1) = G.1 ∧ GL m m' ∧ ∀ c', InG G (qD M - d) c' ↔ RF M n d c (qD M - d) c' := by
  have hD := hM.2.1
  have hdg : ∀ j, j < qD M - d → ro n j < qA M (d + j) := by
    intro j hj
    unfold rOk at hr
    rw [Bool.and_eq_true, List.all_eq_true] at hr
    have := hr.1 j (List.mem_range.mpr hj)
    simpa using this
  obtain ⟨⟨m', G', A'⟩, ⟨b1, b2, b3, b4⟩, e⟩ := loopE (fun f (x : Mm × Gh × (Nat → Nat)) i => f_Mo_knownBy_L39 N x1 K f (nI (x.2.2 i)) (nI i) x.1) (fun x i => BI M (qO M) d x.1 x.2.1 x.2.2 (i + 1) ∧ x.2.2 (i + 1) = x.2.1.1 ∧ GL m x.1 ∧ ∀ c', InG x.2.1 i c' ↔ RF M n d c i c') (qD M - d) (fun x => K (nI (x.2.2 (qD M - d))) (nI (qD M - d)) x.1) (fun f x i hi hI => by
    show ∃ x', _ ∧ f_Mo_knownBy_L39 N x1 K (f + 1) (nI (x.2.2 i)) (nI i) x.1 = _
    obtain ⟨m1, G1, A1⟩ := x
    obtain ⟨b1, b2, b3, b4⟩ := hI
    have hX' := b3.cxr hX
    have ha := hdg i hi
    have b2' : A1 (i + 1) = G1.1 := b2
    obtain ⟨m2, G2, c0, c1, c2, c3, c4⟩ := tR_k84 (x1 := x1) hM hE hN (show d + (i + 1) ≤ qD M by omega) ha b1 b2 hX' (fun (z32_7 : Int32) (m32 : Mm) => f_Mo_knownBy_L39 N x1 K f (nI (A1 (i + 1))) (nI (i + 1)) m32)
    refine ⟨(m2, G2, fun x => if x = i + 1 + 1 then G2.1 else A1 x), ⟨BI_next c1, if_pos rfl, b3.trans c2, fun c' => ?_⟩, ?_⟩
    · show InG G2 (i + 1) c' ↔ RF M n d c (i + 1) c'
      rw [c4]
      constructor
      · intro h
        rcases h with h | ⟨_, c1', h1, h2⟩
        · obtain ⟨k, r1, r2, r3⟩ := h
          have := (b1.2.1 k r1).2.2.2.mp r2
          have b2' : A1 (i + 1) = G1.1 := b2
          have this' : A1 (i + 1) ≤ k := this
          omega
        · exact ⟨c1', (b4 c1').mp h1, h2⟩
      · rintro ⟨c1', h1, h2⟩
        exact Or.inr ⟨rfl, c1', (b4 c1').mpr h1, h2⟩
    · show f_Mo_knownBy_L39 N x1 K (f + 1) (nI (A1 i)) (nI i) m1 = f_Mo_knownBy_L39 N x1 K f (nI (if i + 1 = i + 1 + 1 then G2.1 else A1 (i + 1))) (nI (i + 1)) m2
      have e18 : mI m1 0 18 = nI (qD M) := hX'.1.2.1
      have e40 : mI m1 0 40 = nI (A1 (i + 1)) := by rw [b2']; exact b1.1.2.1
      have e21 : mX m1 21 i = nI (ro n i) := by
        have : mX m1 21 i = mX m 21 i := by unfold mX; rw [b3.2.2.1 21 (by omega)]
        rw [this]; exact hx i hi
      have hix : ix (nI i) 6 := nI_in (by omega) (by omega)
      rw [if_neg (by omega), f_Mo_knownBy_L39, e18, hX'.2, pk_sub hd, if_neg (nI_ge hi (by omega)), ck_t hix, nI_clamp (show i < 2 ^ 31 by omega), e21, nI_add, tR_alt1 hM hX'.1 (show d + i < qD M by omega) ha, b1_s, e40, nI_1]
      exact c0) (fun f x hI => by
    show f_Mo_knownBy_L39 N x1 K (f + 1) (nI (x.2.2 (qD M - d))) (nI (qD M - d)) x.1 = _
    have hX' := hI.2.2.1.cxr hX
    rw [f_Mo_knownBy_L39, hX'.1.2.1, hX'.2, pk_sub hd, if_pos (nI_le (Nat.le_refl _) (by omega))]) (qD M - d) N (m, G0, A0) 0 (by omega) (by omega) ⟨hB, hAG, GL.refl, fun c' => hG c'⟩
  refine ⟨m', G', A', ?_, b1, b2, b3, b4⟩
  rw [← e]
  show _ = f_Mo_knownBy_L39 N x1 K N (nI (A0 0)) (nI 0) m
  rw [hA0]
  rfl
theorem gE_s3 (hM : qOk M) (hE : qE M) {g b c : Nat} (hL : Lg M c) : sm3 (gE M g b c) := by
  have := gE_b hM hE (g := g) (b := b) hL
  unfold sm3
  omega
theorem tR_k226 (hM : qOk M) (hE : qE M) (hN : 1000000 ≤ N) {m : Mm} {G : Gh} {A : Nat → Nat} {g ls : Nat} (hg : g < 3) (hls : d + ls = qD M) (hB : BI M (qO M) d m G A (ls + 1)) (hAG : A (ls + 1) = G.1) (hW : RW m M) (hR : RE m M) (K : Int32 → Int32 → Mm → Option (Int32 × Mm)) : ∃ m' o, f_Mo_knownBy_L226 N (nI g) K N (-2147483648) (nI (A ls)) m = K (zI o) (nI G.1) m' ∧ GE m m' ∧ RE m' M ∧ (∀ x, o = some x → isG (fun v => ∃ c', InG G ls c' ∧ v = gE M g (qB M) c') x) ∧ (o = none → ∀ c', ¬ InG G ls c') := by
  have hD := hM.2.1
  have hO := hM.2.2.1
  have hBb := hM.2.2.2.1
  have hlast := fun k (hk : k < G.1) => (hB.2.1 k hk).2.2.1 ls (by omega)
  have hkB : ∀ k, k < G.1 → Lg M (G.2.1 k) ∧ hl (G.2.1 k) ≤ qO M := fun k hk => ⟨(hB.2.1 k hk).2.1.1, (hB.2.1 k hk).2.1.2.2⟩
  have hAl : A ls ≤ G.1 := by have := (hB.2.2.2 ls (by omega)).1; omega
  have hn : G.1 ≤ 160000 := hB.1.1
  obtain ⟨m', ⟨b0, b1, b2⟩, e⟩ := loopE (fun f (x : Mm) k => f_Mo_knownBy_L226 N (nI g) K f (zI (mxo (fun k => decide (A ls ≤ k)) (fun k => gE M g (qB M) (G.2.1 k)) k)) (nI k) x) (fun x k => A ls ≤ k ∧ GE m x ∧ RE x M) G.1 (fun x => K (zI (mxo (fun k => decide (A ls ≤ k)) (fun k => gE M g (qB M) (G.2.1 k)) G.1)) (nI G.1) x) (fun f x k hk hI => by
    show ∃ x', _ ∧ f_Mo_knownBy_L226 N (nI g) K (f + 1) (zI (mxo (fun k => decide (A ls ≤ k)) (fun k => gE M g (qB M) (G.2.1 k)) k)) (nI k) x = _
    obtain ⟨b0, b1, b2⟩ := hI
    have hW' := b1.rw hW
    obtain ⟨x', q0, q1, q2⟩ := tR_ends hM hE hW' b2 hN (hkB k hk).1 (by have := (hkB k hk).2; omega) hg (show qB M < 3 by omega)
    refine ⟨x', ⟨by omega, b1.trans q1, q2⟩, ?_⟩
    have e40 : mI x 0 40 = nI G.1 := (b1.1 0 40 (by omega)).trans hB.1.2.1
    have e17 : mYy x 17 k = rz (G.2.1 k) := by
      have : mYy x 17 k = mYy m 17 k := by unfold mYy; rw [b1.2.2.2 17 (by omega)]
      rw [this]; exact (hB.1.2.2.1 k hk).1
    have hix : ix (nI k) 160000 := nI_in (by omega) (by omega)
    have hst := zI_step (p := fun k => decide (A ls ≤ k)) (F := fun k => gE M g (qB M) (G.2.1 k)) (n := k) (fun i hi _ => gE_s3 hM hE (hkB i (by omega)).1) (by simpa using b0)
    rw [f_Mo_knownBy_L226, e40, if_neg (nI_ge hk (by omega)), ck_t hix, nI_clamp (show k < 2 ^ 31 by omega), e17, hW'.2.2.2.1, q0, b2_s, nI_1]
    show _ = f_Mo_knownBy_L226 N (nI g) K f (zI (mxo (fun k => decide (A ls ≤ k)) (fun k => gE M g (qB M) (G.2.1 k)) (k + 1))) (nI (k + 1)) x'
    rw [← hst]
    split <;> rfl) (fun f x hI => by
    show f_Mo_knownBy_L226 N (nI g) K (f + 1) _ (nI G.1) x = _
    have e40 : mI x 0 40 = nI G.1 := (hI.2.1.1 0 40 (by omega)).trans hB.1.2.1
    rw [f_Mo_knownBy_L226, e40, if_pos (nI_le (Nat.le_refl _) (by omega))]) (G.1 - A ls) N m (A ls) (by omega) (by omega) ⟨Nat.le_refl _, GE.refl, hR⟩
  have h0 : mxo (fun k => decide (A ls ≤ k)) (fun k => gE M g (qB M) (G.2.1 k)) (A ls) = none := by
    have := mxo_more (p := fun k => decide (A ls ≤ k)) (F := fun k => gE M g (qB M) (G.2.1 k)) (n := 0) (A ls) (fun i _ hi => by simp; omega)
    rw [Nat.zero_add] at this
    rw [this]; rfl
  refine ⟨m', mxo (fun k => decide (A ls ≤ k)) (fun k => gE M g (qB M) (G.2.1 k)) G.1, ?_, b1, b2, fun x hx => ?_, fun hx c' hc' => ?_⟩
  · rw [← e]
    show _ = f_Mo_knownBy_L226 N (nI g) K N (zI (mxo (fun k => decide (A ls ≤ k)) (fun k => gE M g (qB M) (G.2.1 k)) (A ls))) (nI (A ls)) m
    rw [h0]
    rfl
  · refine isG_c (fun v => ⟨fun h => ?_, fun h => ?_⟩) (mxo_isG hx)
    · obtain ⟨i, h1, h2, h3⟩ := h
      have h2' : A ls ≤ i := by simpa using h2
      exact ⟨G.2.1 i, ⟨i, h1, (hlast i h1).mpr ⟨h2', by omega⟩, rfl⟩, h3⟩
    · obtain ⟨c', ⟨k, r1, r2, r3⟩, h⟩ := h
      have := (hlast k r1).mp r2
      exact ⟨k, r1, by simpa using this.1, by rw [h, ← r3]⟩
  · obtain ⟨k, r1, r2, r3⟩ := hc'
    have h1 := (hlast k r1).mp r2
    have h2 := mxo_none hx k r1
    have h2' : ¬ A ls ≤ k := by simpa using h2
    exact h2' h1.1
/-- KNOWN of a row: the greatest end -/
def KN (M : Mt) (g n d c : Nat) (o : Option Int) : Prop := (∀ x, o = some x → isG (fun v => ∃ c', RF M n d c (qD M - d) c' ∧ v = gE M g (qB M) c') x) ∧ (o = none → ∀ c', ¬ RF M n d c (qD M - d) c')
theorem tR_knownBy (hM : qOk M) (hE : qE M) (hN : 1000000 ≤ N) {m : Mm} {c g n : Nat} (hg : g < 3) (hW : RW m M) (hR : RE m M) (hn : RNw m c d none) (hc : NW M c d none) (hr : rOk M d n = true) (hx : ∀ j, j < qD M - d → mX m 21 j = nI (ro n j)) : ∃ m' o, f_Mo_knownBy N (nI g) m = some (zI o, m') ∧ KN M g n d c o ∧ RE m' M ∧ PQ m m' := by
  have hD := hM.2.1
  have hdD := hc.2.1
  unfold f_Mo_knownBy
  generalize hK : (fun (z3_2 : Int32) (m3 : Mm) => b3 (f_Mo_lays N ((mJ m3 0 23)) 0 (vI m3 0 40 0)) fun m4 => f_Mo_knownBy_L39 N (nI g) (fun (z58_2 : Int32) (z58_3 : Int32) (m58 : Mm) => f_Mo_knownBy_L226 N (nI g) (fun (z63_3 : Int32) (z63_4 : Int32) (m63 : Mm) => some (z63_3, m63)) N ((-2147483648)) z58_2 m58) N 0 0 m4) = KK
  obtain ⟨m3, e3, a1, a2, a3, a4, a5⟩ := tR_k2 hN (m := m) (x1 := nI g) KK
  rw [e3, ← hK]
  show ∃ m' o, b3 (f_Mo_lays N ((mJ m3 0 23)) 0 (vI m3 0 40 0)) _ = some (zI o, m') ∧ _
  have e23 : mJ m3 0 23 = rz c := by have := hn.1; unfold mJ at *; rw [a3]; exact this
  generalize hm4 : vI m3 0 40 0 = m4
  have p4 : PL m m4 := by
    rw [← hm4]
    refine ⟨fun a k hk => ?_, a3, fun a _ h2 => a5 a h2, fun a _ _ => by show m3.2.2.2 a = _; rw [a4]⟩
    show u2 m3.1 0 40 0 a k = m.1 a k
    unfold u2
    rw [if_neg (by omega), a2]
  have h40 : mI m4 0 40 = nI 0 := by
    rw [← hm4]
    show u2 m3.1 0 40 0 0 40 = nI 0
    rw [u2_s]
    rfl
  have h20 : ∀ i, i < 524288 → mX m4 20 i = 0 := by
    intro i hi
    rw [← hm4]
    exact a1 i hi
  have hB0 := BI_0 (M := M) (ho := qO M) (ov := d) h40 h20
  have hDs : Ds M (qO M) (d + 0) c := ⟨hc.1, hc.2.2.2.1, hc.2.2.1⟩
  obtain ⟨m5, G5, l1, l2, l3, l4, l5, l6⟩ := BI_lay hM hE hN hB0 (by omega) hDs
  have l1' : f_Mo_lays N (rz c) 0 m4 = some m5 := l1
  have p5 := p4.trans l3.pl
  have hX5 : CxR M d m5 := p5.cxr ⟨hW, hn.2.1⟩
  obtain ⟨m6, G6, A6, f0, f1, f2, f3, f4⟩ := tR_k39 (x1 := nI g) (c := c) (n := n) hM hE hN hdD hr (BI_next l2) (if_pos rfl) (if_neg (by omega)) (fun c' => ⟨fun h => by
      rcases l6 0 c' h with ⟨k, hk, _⟩ | ⟨_, q⟩
      · exact absurd hk (Nat.not_lt_zero _)
      · exact q, fun h => by rw [h]; exact l5⟩) hX5 (fun j hj => by
      have : mX m5 21 j = mX m 21 j := by unfold mX; rw [p5.2.2.1 21 (by omega) (by omega)]
      rw [this]; exact hx j hj) (fun (z58_2 : Int32) (z58_3 : Int32) (m58 : Mm) => f_Mo_knownBy_L226 N (nI g) (fun (z63_3 : Int32) (z63_4 : Int32) (m63 : Mm) => some (z63_3, m63)) N ((-2147483648)) z58_2 m58)
  have p6 := p5.trans f3.pl
  have hX6 := f3.cxr hX5
  obtain ⟨m7, o, g0, g1, g2, g3, g4⟩ := tR_k226 hM hE hN hg (show d + (qD M - d) = qD M by omega) f1 f2 hX6.1 (RE_PL p6 hR) (fun (z63_3 : Int32) (z63_4 : Int32) (m63 : Mm) => some (z63_3, m63))
  refine ⟨m7, o, ?_, ⟨fun x hx => ?_, fun ho c' h => g4 ho c' ((f4 c').mpr h)⟩, g2, ?_⟩
  · rw [e23, l1', b3_s, f0]
    exact g0
  · refine isG_c (fun v => ⟨fun h => ?_, fun h => ?_⟩) (g3 x hx)
    · obtain ⟨c', h1, h2⟩ := h
      exact ⟨c', (f4 c').mp h1, h2⟩
    · obtain ⟨c', h1, h2⟩ := h
      exact ⟨c', (f4 c').mpr h1, h2⟩
  · have pa : PQ m m6 := ⟨fun a k q => p6.1 a k (by omega), fun a k _ => by rw [p6.2.1], fun a _ _ q3 q4 _ => p6.2.2.1 a q3 q4, fun a _ q2 q3 _ _ _ _ => p6.2.2.2 a q2 q3⟩
    exact pa.trans g1.ps.pq
end RKNOWN2
