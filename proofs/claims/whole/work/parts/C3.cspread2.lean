/-! KNOWN: the class's spread: to whom a thing may go. -/
section CSPREAD2
variable {N : Nat} {S : St} {M : Mt}
theorem tC_s95 (hM : qOk M) (hE : qE M) (hN : 100 ≤ N) {m : Mm} {rec : Int64 → Int64 → Int32 → Int32 → Nat → Mm → Option (Int64 × Mm)} {x7 t' c d d' a w s : Nat} (ha : a < 12) (hc : c < 8 ^ 13) (hd : d < 8) (hW : CW m 10 M) (hw : w < 8) (hk : wOk (qH M) (qL M) w = true) (hl4 : lmF (qH M) (qL M) w = a % 4) (hs : s ≤ 4) {Q : Nat → Int → Prop} (hrec : ∀ to m1, s ≤ to → to < 4 → gok (Bt M) (qO M) a to (hl c) → Gd M S m m1 → ∃ m2 o, rec (cs (c + 8 ^ (4 * (a / 4) + to)) d) (cs t' d') (nI a) (nI to) x7 m1 = some (zL o, m2) ∧ Gd M S m1 m2 ∧ oG (Q to) o) (K : Int64 → Int32 → Mm → Option (Int64 × Mm)) : ∃ m' o, f_Rows_spread_L95 N S rec (cs c d) x7 (nI a) (nI (a / 4)) (nI w) (cs t' d') K N UNK (nI s) m = K (zL o) (nI 4) m' ∧ Gd M S m m' ∧ oG (fun v => ∃ to, s ≤ to ∧ to < 4 ∧ gok (Bt M) (qO M) a to (hl c) ∧ Q to v) o := by
  have hO := hM.2.2.1
  have hh := hl_lt c
  obtain ⟨⟨m', o⟩, ⟨g0, g1, g2⟩, e⟩ := loopE (fun f (x : Mm × Option Int) j => f_Rows_spread_L95 N S rec (cs c d) x7 (nI a) (nI (a / 4)) (nI w) (cs t' d') K f (zL x.2) (nI j) x.1) (fun x j => s ≤ j ∧ Gd M S m x.1 ∧ oG (fun v => ∃ to, s ≤ to ∧ to < j ∧ gok (Bt M) (qO M) a to (hl c) ∧ Q to v) x.2) 4 (fun x => K (zL x.2) (nI 4) x.1) (fun f x j hj hI => by
    show ∃ x', _ ∧ f_Rows_spread_L95 N S rec (cs c d) x7 (nI a) (nI (a / 4)) (nI w) (cs t' d') K (f + 1) (zL x.2) (nI j) x.1 = _
    obtain ⟨g0, g1, g2⟩ := hI
    have e2 : mI x.1 10 2 = nI (qO M) := by unfold mI; rw [g1.1]; exact hW.2.2.1
    have skip : ¬ gok (Bt M) (qO M) a j (hl c) → s ≤ j + 1 ∧ Gd M S m x.1 ∧ oG (fun v => ∃ to, s ≤ to ∧ to < j + 1 ∧ gok (Bt M) (qO M) a to (hl c) ∧ Q to v) x.2 := by
      intro hn
      refine ⟨by omega, g1, oG_c (fun v => ⟨fun h => ?_, fun h => ?_⟩) g2⟩
      · obtain ⟨to, h1, h2, h3, h4⟩ := h
        exact ⟨to, h1, by omega, h3, h4⟩
      · obtain ⟨to, h1, h2, h3, h4⟩ := h
        by_cases q : to = j
        · rw [q] at h3; exact absurd h3 hn
        · exact ⟨to, h1, by omega, h3, h4⟩
    have take : gok (Bt M) (qO M) a j (hl c) → ∃ x' : Mm × Option Int, (s ≤ j + 1 ∧ Gd M S m x'.1 ∧ oG (fun v => ∃ to, s ≤ to ∧ to < j + 1 ∧ gok (Bt M) (qO M) a to (hl c) ∧ Q to v) x'.2) ∧ (b1 (f_State_with N (cs c d) (nI (a / 4)) (nI j)) fun r8 => b2 (rec r8 (cs t' d') (nI a) (nI j) x7 x.1) fun r9 m9 => f_Rows_spread_L95 N S rec (cs c d) x7 (nI a) (nI (a / 4)) (nI w) (cs t' d') K f ((if r9 < zL x.2 then zL x.2 else r9)) (nI (j + 1)) m9) = f_Rows_spread_L95 N S rec (cs c d) x7 (nI a) (nI (a / 4)) (nI w) (cs t' d') K f (zL x'.2) (nI (j + 1)) x'.1 := by
      intro hy
      obtain ⟨m2, o2, r1, r2, r3⟩ := hrec j x.1 g0 hj hy g1
      refine ⟨(m2, omx x.2 o2), ⟨by omega, g1.trans r2, oG_c (fun v => ⟨fun h => ?_, fun h => ?_⟩) (oG_or g2 r3)⟩, ?_⟩
      · rcases h with ⟨to, h1, h2, h3, h4⟩ | h
        · exact ⟨to, h1, by omega, h3, h4⟩
        · exact ⟨j, g0, by omega, hy, h⟩
      · obtain ⟨to, h1, h2, h3, h4⟩ := h
        by_cases q : to = j
        · rw [q] at h4; exact Or.inr h4
        · exact Or.inl ⟨to, h1, by omega, h3, h4⟩
      · rw [t_with (by omega) hj, b1_s, r1, b2_s, zL_omx g2 r3]
    rw [f_Rows_spread_L95, if_neg (n3lt hj)]
    simp only [jn]
    rw [nI_1]
    by_cases q : j = 3
    · rw [if_pos (show nI j = 3 by rw [q]; rfl), t_heldOf hc hd, b1_s, e2]
      by_cases y : hl c < qO M
      · rw [if_neg (nI_ge y (by omega))]
        exact take (by unfold gok; rw [if_pos q]; exact y)
      · rw [if_pos (nI_le (by omega) (by omega))]
        exact ⟨x, skip (by unfold gok; rw [if_pos q]; exact y), rfl⟩
    · have hb : gok (Bt M) (qO M) a j (hl c) ↔ w / 2 ^ j % 2 = 1 := by
        unfold gok
        rw [if_neg q, ← hl4, Bt_eq hM hw hk, decide_eq_true_eq]
      rw [if_neg (show ¬ nI j = 3 from fun z => q ((nI_eq (a := j) (b := 3) (by omega) (by omega)).mp z)), isr_n (by omega) (by omega), nI_a1]
      by_cases y : w / 2 ^ j % 2 = 1
      · rw [if_pos (by rw [y]; rfl)]
        exact take (hb.mpr y)
      · rw [if_neg (by rw [show w / 2 ^ j % 2 = 0 by omega]; decide)]
        exact ⟨x, skip (fun z => y (hb.mp z)), rfl⟩) (fun f x hI => by
    show f_Rows_spread_L95 N S rec (cs c d) x7 (nI a) (nI (a / 4)) (nI w) (cs t' d') K (f + 1) (zL x.2) (nI 4) x.1 = _
    rw [f_Rows_spread_L95, if_pos n3lt4]) (4 - s) N (m, none) s (by omega) (by omega) ⟨Nat.le_refl _, Gd.refl, oG_0 (fun v h => by obtain ⟨to, h1, h2, _⟩ := h; omega)⟩
  exact ⟨m', o, e, g1, g2⟩
end CSPREAD2
