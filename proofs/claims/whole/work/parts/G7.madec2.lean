/-! MAKING: what the class is when it is made. -/
section MADEC2
variable {xs : Nat → Int32} {L : Nat}
theorem all_in {α : Type} {l : List α} {p : α → Bool} (h : l.all p = true) {a : α} (ha : a ∈ l) : p a = true := List.all_eq_true.mp h a ha
theorem kTC_101 : ∀ a, a < 101 → ∃ c, (a, c) ∈ kTC := fun a ha => by
  have h : ∀ a, a < 101 → (kTC.map (fun e => e.1)).contains a = true := by decide +kernel
  have h1 := h a ha
  rw [List.contains_iff_mem] at h1
  obtain ⟨e, e1, e2⟩ := List.mem_map.mp h1
  exact ⟨e.2, by rw [← e2]; exact e1⟩
theorem rTC_k : rTC.all (fun e => kTC.any (fun q => decide (q.1 = e.1) && decide (q.2 < 11))) = true := by decide +kernel
theorem pot_0 (M : Nat) (h : 0 < M) : pot 0 M = 0 := by unfold pot; rw [if_neg (by omega)]
theorem mkd_C : ∃ (m : Mm) (S : St), Ev xs L true 12 0 [.ref 0] (nO w00 9 12) none (m, S) ∧ (CS0 S m ∧ WK m 0) ∧ CW m 10 mZero ∧ mI m 0 6 = 0 ∧ CN m 0 0 none ∧ mI m 0 1 = 0 ∧ (∀ i, mX m 1 i = 0) ∧ (∀ k, mX m 98 k = 0) ∧ S.2.2.2.2.1 = 101 ∧ S.2.2.2.2.2 = 8097 ∧ Phi S = 0 ∧ RCl (m, S) := by
  obtain ⟨q, hq, hc⟩ := okRun_ex run_C
  have h0 : Rep IxC (qNO qEm 9 12) (nO w00 9 12) := Rep_NO (by omega) (Rep_00 ⟨fun _ _ => rfl, fun _ _ _ => rfl, fun _ _ _ => rfl, fun z => absurd z (by decide), fun z => absurd z (by decide), fun z => absurd z (by decide)⟩)
  obtain ⟨⟨m, S⟩, hev, hr⟩ := xev_ok (xs := xs) (L := L) IxC_A orc_ok 12 0 [.ref 0] _ none q _ hq h0
  unfold chkC at hc
  simp only [Bool.and_eq_true] at hc
  obtain ⟨c1, c2, c3, c4, c5, c6, c7⟩ := hc
  unfold chkC1 at c1
  rw [Bool.and_eq_true, Bool.and_eq_true, decide_eq_true_eq, decide_eq_true_eq, decide_eq_true_eq] at c1
  obtain ⟨c11, c12, c13⟩ := c1
  unfold chkC2 at c2
  rw [Bool.and_eq_true, Bool.and_eq_true] at c2
  obtain ⟨c21, c22, c23⟩ := c2
  unfold chkC3 at c3
  rw [Bool.and_eq_true, Bool.and_eq_true, decide_eq_true_eq, decide_eq_true_eq] at c3
  obtain ⟨c31, c32, c33⟩ := c3
  unfold chkC4 at c4
  rw [Bool.and_eq_true, decide_eq_true_eq] at c4
  obtain ⟨c41, c42⟩ := c4
  unfold chkC5 at c5
  rw [Bool.and_eq_true] at c5
  obtain ⟨c51, c52⟩ := c5
  unfold chkC6 at c6
  rw [Bool.and_eq_true, Bool.and_eq_true, Bool.and_eq_true, Bool.and_eq_true, decide_eq_true_eq, decide_eq_true_eq, decide_eq_true_eq, decide_eq_true_eq] at c6
  obtain ⟨c61, c62, c63, c64, c65⟩ := c6
  unfold chkC7 at c7
  rw [Bool.and_eq_true] at c7
  have hN : S.2.2.2.2.1 = 101 := hr.1.1.trans c12
  have hSl : S.2.2.2.2.2 = 8097 := hr.1.2.1.trans c13
  have kk : ∀ a c, (a, c) ∈ kTC → mkK q a = some c := fun a c h => of_decide_eq_true (all_in c21 h)
  have kw : ∀ a c, (a, c) ∈ kTC → S.2.1 a = c := fun a c h => (hr.2.1 a c (kk a c h)).2
  have kl : ∀ a n, mkL q a = some n → S.2.2.1 a = n := fun a n h => (hr.2.2.1 a n h).2
  have kr : ∀ a c k, (a, c) ∈ kTC → c < 11 → S.1 a k = mkR q a k := fun a c k h hc => (hr.2.2.2.1 a c k (kk a c h) hc).1
  have ki : ∀ a c k, (a, c) ∈ kTC → c < 11 → m.1 a k = mkI q a k := fun a c k h hc => (hr.2.2.2.1 a c k (kk a c h) hc).2.1
  have kj : ∀ a c k, (a, c) ∈ kTC → c < 11 → m.2.1 a k = 0 := fun a c k h hc => (hr.2.2.2.1 a c k (kk a c h) hc).2.2
  have kz : ∀ a c k, (a, c) ∈ kTC → 11 ≤ c → S.2.2.2.1 a k = mkZ q a k := fun a c k h hc => hr.2.2.2.2.1 a c k (kk a c h) hc
  have hI := hr.1.2.2
  rw [c11] at hI
  obtain ⟨i1, i2, _, i4, i5, i6⟩ := hI
  have tb : ∀ t, t ∈ tKl → S.1 t 0 = some (t + 1) ∧ S.2.2.1 (t + 1) = 0 ∧ (t + 1, 13) ∈ kTC := fun t ht => by
    have := all_in c31 ht
    rw [Bool.and_eq_true, decide_eq_true_eq, decide_eq_true_eq] at this
    refine ⟨?_, kl _ _ this.2, (by decide : ∀ t ∈ tKl, (t + 1, 13) ∈ kTC) t ht⟩
    rw [kr t 6 0 ((by decide : ∀ t ∈ tKl, (t, 6) ∈ kTC) t ht) (by omega)]
    exact this.1
  have hw2 : S.1 30 2 = some 31 := by
    rw [kr 30 4 2 (by decide) (by omega)]; exact c32
  have hE5 : ∀ i, i < 9 → S.1 (33 + 3 * i) 4 = (if i % 3 = 0 then none else some (33 + 3 * (i - 1))) ∧ m.1 (33 + 3 * i) 3 = nI (i / 3) ∧ S.2.2.2.1 32 i = some (33 + 3 * i) := fun i hi => by
    have := all_in c51 (List.mem_range.mpr hi)
    rw [Bool.and_eq_true, Bool.and_eq_true, decide_eq_true_eq, decide_eq_true_eq, decide_eq_true_eq] at this
    have hm : (33 + 3 * i, 1) ∈ kTC := (by decide : ∀ i, i < 9 → (33 + 3 * i, 1) ∈ kTC) i hi
    exact ⟨(kr _ 1 4 hm (by omega)).trans this.1, (ki _ 1 3 hm (by omega)).trans this.2.1, (kz 32 15 i (by decide) (by omega)).trans this.2.2⟩
  have hS5 : ∀ i, i < 12 → m.1 (61 + 3 * i) 3 = nI (i % 4) ∧ S.2.2.2.1 60 i = some (61 + 3 * i) := fun i hi => by
    have := all_in c52 (List.mem_range.mpr hi)
    rw [Bool.and_eq_true, decide_eq_true_eq, decide_eq_true_eq] at this
    have hm : (61 + 3 * i, 5) ∈ kTC := (by decide : ∀ i, i < 12 → (61 + 3 * i, 5) ∈ kTC) i hi
    exact ⟨(ki _ 5 3 hm (by omega)).trans this.1, (kz 60 16 i (by decide) (by omega)).trans this.2⟩
  have hsh : ShC S := by
    refine ⟨⟨fun e he => ⟨by rw [hN]; exact kTC_lt e he, kw e.1 e.2 he⟩, fun e he => kl _ _ (of_decide_eq_true (all_in c22 he)), fun e he => ?_⟩, fun t ht f hf => ?_, fun s hs e he => ?_, fun e he => ?_, fun f hf => ?_, fun e he t ht => ?_, fun j hj => (hE5 j hj).2.2, fun j hj => (hS5 j hj).2⟩
    · have hk : ∃ c, (e.1, c) ∈ kTC ∧ c < 11 := by
        have h := all_in rTC_k he
        rw [List.any_eq_true] at h
        obtain ⟨q, q1, q2⟩ := h
        rw [Bool.and_eq_true, decide_eq_true_eq, decide_eq_true_eq] at q2
        exact ⟨q.2, by rw [← q2.1]; exact q1, q2.2⟩
      obtain ⟨c, hc1, hc2⟩ := hk
      rw [kr e.1 c e.2.1 hc1 hc2]
      exact of_decide_eq_true (all_in c23 he)
    · obtain ⟨t1, t2, t3⟩ := tb t ht
      rw [t1] at hf
      have : t + 1 = f := Option.some.inj hf
      rw [← this]
      exact ⟨by rw [hN]; exact kTC_lt _ t3, kw _ _ t3⟩
    · rw [kr s 5 4 ((by decide : ∀ s ∈ sKl, (s, 5) ∈ kTC) s hs) (by omega)] at he
      have := all_in c41 hs
      rw [he] at this
      exact List.contains_iff_mem.mp this
    · rw [kr 97 7 4 (by decide) (by omega), c42] at he
      have : 33 = e := Option.some.inj he
      rw [← this]
      decide
    · rw [hw2] at hf
      have : 31 = f := Option.some.inj hf
      rw [← this, hN]
      exact ⟨by omega, kw 31 12 (by decide)⟩
    · obtain ⟨i, hi, rfl⟩ : ∃ i, i < 9 ∧ e = 33 + 3 * i := (by decide : ∀ e ∈ eKl, ∃ i, i < 9 ∧ e = 33 + 3 * i) e he
      rw [(hE5 i hi).1] at ht
      split at ht
      · cases ht
      · have : 33 + 3 * (i - 1) = t := Option.some.inj ht
        rw [← this]
        exact (by decide : ∀ i, i < 9 → 33 + 3 * i ∈ eKl) (i - 1) (by omega)
  have hfl : ∀ t, t ∈ tKl → flen S t = 0 := fun t ht => by
    obtain ⟨t1, t2, _⟩ := tb t ht
    rw [flen_eq t1]; exact t2
  have hwl : wlen S = 0 := by
    unfold wlen
    rw [hw2]
    exact kl 31 0 c33
  have hTB : TB S := by
    refine ⟨fun t ht => ?_, fun t ht t' ht' e => ?_, fun i hi => (hE5 i hi).1⟩
    · obtain ⟨t1, t2, t3⟩ := tb t ht
      exact ⟨t + 1, t1, Or.inl rfl, by rw [t2]; decide⟩
    · rw [(tb t ht).1, (tb t' ht').1] at e
      have := Option.some.inj e
      omega
  have hLB : LB S := ⟨fun t ht => by rw [hfl t ht]; exact Nat.zero_le _, ⟨31, hw2, Or.inl rfl⟩, by rw [hwl]; omega⟩
  obtain ⟨j1, j2, j3⟩ := i4 (by omega)
  obtain ⟨p1, p2⟩ := i5 (by omega)
  obtain ⟨r1, r2⟩ := i6 (by omega)
  have hX0 : ∀ a k, a ∉ xLs → mX m a k = 0 := i2
  refine ⟨m, S, hev, ⟨⟨hsh, ⟨j1, j2, p1, r1, r2⟩, ⟨fun i hi => (hE5 i hi).2.1, fun i hi => (hS5 i hi).1⟩, hTB, hLB⟩, (ki 30 4 3 (by decide) (by omega)).trans c64, fun a i ha => ⟨0, by omega, hX0 a i (by unfold xLs; simp; omega)⟩⟩, ⟨?_, ?_, ?_, ?_, ?_, fun h s hh => absurd hh (Nat.not_lt_zero _), fun d hd => absurd hd (Nat.not_lt_zero _), fun d a hd => absurd hd (Nat.not_lt_zero _)⟩, (ki 0 9 6 (by decide) (by omega)).trans c62, ⟨?_, (ki 0 9 8 (by decide) (by omega)).trans c61⟩, (ki 0 9 1 (by decide) (by omega)).trans c63, fun i => hX0 1 i (by decide), fun k => hX0 98 k (by decide), hN, hSl, ?_, hr.cl (fun a ha => ?_) ?_ ?_⟩
  · exact (ki 10 8 0 (by decide) (by omega)).trans (of_decide_eq_true (all_in c65 (by decide)))
  · exact (ki 10 8 1 (by decide) (by omega)).trans (of_decide_eq_true (all_in c65 (by decide)))
  · exact (ki 10 8 2 (by decide) (by omega)).trans (of_decide_eq_true (all_in c65 (by decide)))
  · exact (ki 10 8 3 (by decide) (by omega)).trans (of_decide_eq_true (all_in c65 (by decide)))
  · exact (ki 10 8 6 (by decide) (by omega)).trans (of_decide_eq_true (all_in c65 (by decide)))
  · exact (kj 0 9 7 (by decide) (by omega)).trans (by decide)
  · unfold Phi
    rw [hwl, pot_0 _ (by omega), List.map_congr_left (fun t ht => show pot (flen S t) (mst t) = 0 by rw [hfl t ht, pot_0 _ (by unfold mst; split <;> omega)])]
    decide
  · rw [c12] at ha
    obtain ⟨c, hc⟩ := kTC_101 a ha
    exact ⟨c, kk a c hc⟩
  · rw [c12]; exact c7.1
  · rw [c12]; exact c7.2
end MADEC2
