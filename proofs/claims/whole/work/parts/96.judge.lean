/-! JUDGE and JUDGED, class and reference. -/
/-- what judge answers -/
def jdg (M : Mt) (n k c d : Nat) (w : Option Nat) : Int32 := if w = none ∧ rOk M d n = true ∧ gOk M d k = true then zOpt (jrun M n k d (qD M - d) 0 c).1 else 9
theorem gOk_n {M : Mt} {d n : Nat} (h : gOk M d n = true) : n < 2 ^ 31 := by
  unfold gOk at h
  rw [Bool.and_eq_true] at h
  exact of_decide_eq_true h.1
theorem jrun_lt {M : Mt} {n k d : Nat} : ∀ (r j c i : Nat), (jrun M n k d r j c).1 = some i → i < j + r
  | 0, _, _, _, h => by cases h
  | r + 1, j, c, i, h => by
    rw [jrun] at h
    cases e : jst M n k c d j with
    | none =>
      rw [e] at h
      have : j = i := Option.some.inj h
      omega
    | some c' =>
      rw [e] at h
      have := jrun_lt r (j + 1) c' i h
      omega
section JUDGE
variable {N : Nat} {M : Mt} {c d : Nat} {w : Option Nat}
theorem tC_judge (hM : qOk M) (hN : 1000000 ≤ N) {S : St} {m : Mm} {n k : Nat} (hn : n < 2 ^ 32) (hk : k < 2 ^ 32) (h6 : mI m 0 6 = 1) (hW : CW m 10 M) (hc : CN m c d w) (hw : NW M c d w) : f_SC_judge N S (nI n) (nI k) m = some (jdg M n k c d w) := by
  have hD := hM.2.1
  unfold f_SC_judge jdg
  rw [h6, if_neg (by decide), hc.2]
  cases w with
  | some s => rw [if_neg (show ¬ zOpt (some s) = -1 from nI_m1 (by have := (hw.2.2.2.2 s rfl).1; omega)), if_neg (fun q => by cases q.1)]
  | none =>
    rw [if_pos (show zOpt none = -1 from rfl), hc.1, tC_canBe hM hN hW hw.1.1 hw.2.1 hn, b1_s]
    cases e1 : rOk M d n
    · rw [if_pos tf_f, if_neg (fun q => by cases q.2.1)]
    · rw [if_neg (by rw [tf_t]; decide), tC_canHold hM hW hw.1.1 hw.2.1 hk, b1_s]
      cases e2 : gOk M d k
      · rw [if_pos tf_f, if_neg (fun q => by cases q.2.2)]
      · have := tC_first (N := N) (S := S) (m := m) hM hN hW e1 (gOk_n e2) (qD M - d) 0 c N (by have := hw.2.1; omega) (by omega) ⟨hw.1, hw.2.2.2.1, hw.2.2.1⟩
        rw [if_neg (by rw [tf_t]; decide), if_pos ⟨rfl, rfl, rfl⟩]
        unfold f_Rows_firstUnlawful
        rw [t_dayOf hw.1.1 (by have := hw.2.1; omega), b1_s]
        rw [Nat.add_zero] at this
        rw [this, b1_s]
theorem tR_judge (hM : qOk M) (hN : 1000000 ≤ N) {m : Mm} {n k : Nat} (hn : n < 2 ^ 32) (hk : k < 2 ^ 32) (h15 : mI m 0 15 = 1) (hW : RW m M) (hR : RE m M) (hc : RNw m c d w) (hw : NW M c d w) : ∃ m', f_Mo_judge N (nI n) (nI k) m = some (jdg M n k c d w, m') ∧ PQ m m' ∧ RE m' M ∧ (w = none → rOk M d n = true → gOk M d k = true → (jrun M n k d (qD M - d) 0 c).1 = none → mJ m' 0 46 = rz (jrun M n k d (qD M - d) 0 c).2) := by
  have hD := hM.2.1
  unfold f_Mo_judge jdg
  rw [h15, if_neg (by decide), hc.2.2]
  cases w with
  | some s => exact ⟨m, by rw [if_neg (show ¬ zOpt (some s) = -1 from nI_m1 (by have := (hw.2.2.2.2 s rfl).1; omega)), if_neg (fun q => by cases q.1)], PQ.refl, hR, fun q => by cases q⟩
  | none =>
    obtain ⟨m1, e1, p1, _⟩ := tR_isAltRow hM hN hW hc hw.2.1 hn
    rw [if_pos (show zOpt none = -1 from rfl), e1, b2_s]
    cases r1 : rOk M d n
    · exact ⟨m1, by rw [if_pos tf_f, if_neg (fun q => by cases q.2.1)], p1.pq, RE_PD p1 hR, fun _ q => by cases q⟩
    · have hW1 := p1.pq.rw hW
      have hc1 := p1.pq.rn hc
      obtain ⟨m2, e2, p2, _⟩ := tR_isRow hM hN hW1 hc1 hw.2.1 hk
      rw [if_neg (by rw [tf_t]; decide), e2, b2_s]
      cases r2 : gOk M d k
      · exact ⟨m2, by rw [if_pos tf_f, if_neg (fun q => by cases q.2.2)], (p1.trans p2).pq, RE_PD (p1.trans p2) hR, fun _ _ q => by cases q⟩
      · have p12 := p1.trans p2
        have hW2 := p12.pq.rw hW
        have hc2 := p12.pq.rn hc
        have hj := tR_jloop hM hN ⟨hW2, hc2.2.1⟩ r1 (gOk_n r2) (fun (z19_3 : Int64) (z19_5 : Int32) => some ((-1), (vJ m2 0 46 z19_3))) (qD M - d) 0 c N (by have := hw.2.1; omega) (by omega) ⟨hw.1, hw.2.2.2.1, hw.2.2.1⟩
        rw [if_neg (by rw [tf_t]; decide), if_pos ⟨rfl, rfl, rfl⟩, hc2.1]
        have hj' : f_Mo_judge_L42 N (nI n) (nI k) m2 (fun (z19_3 : Int64) (z19_5 : Int32) => some ((-1), (vJ m2 0 46 z19_3))) N (rz c) 0 = _ := hj
        rw [hj']
        cases ej : (jrun M n k d (qD M - d) 0 c).1 with
        | some i => exact ⟨m2, rfl, p12.pq, RE_PD p12 hR, fun _ _ _ q => by cases q⟩
        | none =>
          refine ⟨vJ m2 0 46 (rz (jrun M n k d (qD M - d) 0 c).2), rfl, p12.pq.trans ⟨fun _ _ _ => rfl, fun a k hak => ?_, fun _ _ _ _ _ _ => rfl, fun _ _ _ _ _ _ _ _ => rfl⟩, RE_same (m := m2) rfl rfl rfl (RE_PD p12 hR), fun _ _ _ _ => by show u2 m2.2.1 0 46 (rz (jrun M n k d (qD M - d) 0 c).2) 0 46 = _; rw [u2_s]⟩
          show u2 m2.2.1 0 46 _ a k = _
          unfold u2
          rw [if_neg hak]
/-- what judged answers -/
noncomputable def jdgd (M : Mt) (g n k c d : Nat) (w : Option Nat) : Int32 := if jdg M n k c d w = -1 then iz (gE M g (qB M) (jrun M n k d (qD M - d) 0 c).2) else -2147483648
theorem jdg_m1 (hM : qOk M) {n k : Nat} : jdg M n k c d w = -1 ↔ w = none ∧ rOk M d n = true ∧ gOk M d k = true ∧ (jrun M n k d (qD M - d) 0 c).1 = none := by
  have hD := hM.2.1
  unfold jdg
  by_cases q : w = none ∧ rOk M d n = true ∧ gOk M d k = true
  · rw [if_pos q, zO_m1 (fun v hv => by have := jrun_lt _ _ _ _ hv; omega)]
    exact ⟨fun h => ⟨q.1, q.2.1, q.2.2, h⟩, fun h => h.2.2.2⟩
  · rw [if_neg q]
    exact ⟨fun h => absurd h (by decide), fun h => absurd ⟨h.1, h.2.1, h.2.2.1⟩ q⟩
theorem tC_judged (hM : qOk M) (hE : qE M) (hN : 1000000 ≤ N) {S : St} {m : Mm} {g n k : Nat} (hg : g < 3) (hn : n < 2 ^ 32) (hk : k < 2 ^ 32) (h6 : mI m 0 6 = 1) (hC : CIb M S m) (hc : CN m c d w) (hw : NW M c d w) : ∃ m' S', f_SC_judged N S (nI g) (nI n) (nI k) m = some (jdgd M g n k c d w, m', S') ∧ Rq1 M S m S' m' 3 := by
  have hB := hM.2.2.2.1
  have hO := hM.2.2.1
  have hD := hM.2.1
  unfold f_SC_judged jdgd
  rw [tC_isGoal hg, b1_s, if_neg (by decide), tC_judge hM hN hn hk h6 hC.2.1.1 hc hw, b1_s]
  by_cases q : jdg M n k c d w = -1
  · obtain ⟨q1, q2, q3, q4⟩ := (jdg_m1 hM).mp q
    obtain ⟨m1, S1, e1, r1, hTE, _⟩ := t_bookEnds hM hE hN hg (show qB M < 3 by omega) hC
    have hn1 := r1.2.1.cn hc
    have ha := tC_after (N := N) (S := S1) (m := m1) hM hN r1.1.2.1.1 q2 (gOk_n q3) (qD M - d) 0 c N (by have := hw.2.1; omega) (by omega) ⟨hw.1, hw.2.2.2.1, hw.2.2.1⟩ q4
    rw [Nat.add_zero] at ha
    obtain ⟨m2, e2, hG⟩ := tE_value (N := N) hM hE (by omega) hg (show qB M < 3 by omega) (by have := ha.2.2.2; omega) ha.2.1 (show qD M < 8 by omega) r1.1.2.1 hTE
    have hq1 : Rq1 M S m S1 m1 3 := ⟨r1.1, r1.2.1, r1.2.2.1.mono (by omega)⟩
    refine ⟨m2, S1, ?_, hq1.gd hG⟩
    rw [if_pos q, if_pos q, hC.2.1.1.2.2.2.1, e1]
    show ckc (ShC S1) (ck _ _) = _
    rw [ckc_t r1.1.1, ck_t (eE_mem g hg _ (by omega)), hn1.1]
    unfold f_Rows_stateAfter
    rw [t_dayOf hw.1.1 (by have := hw.2.1; omega), b1_s, ha.1, b1_s, e2, b2_s, lz_i]
  · exact ⟨m, S, by rw [if_neg q, if_neg q], hC, FrC.refl, Pay.refl.mono (by omega)⟩
theorem tR_judged (hM : qOk M) (hE : qE M) (hN : 1000000 ≤ N) {m : Mm} {g n k : Nat} (hg : g < 3) (hn : n < 2 ^ 32) (hk : k < 2 ^ 32) (h15 : mI m 0 15 = 1) (hW : RW m M) (hR : RE m M) (hc : RNw m c d w) (hw : NW M c d w) : ∃ m', f_Mo_judged N (nI g) (nI n) (nI k) m = some (jdgd M g n k c d w, m') ∧ PQ m m' ∧ RE m' M := by
  have hB := hM.2.2.2.1
  have hO := hM.2.2.1
  have hD := hM.2.1
  obtain ⟨m1, e1, p1, hR1, h46⟩ := tR_judge hM hN hn hk h15 hW hR hc hw
  unfold f_Mo_judged jdgd
  rw [tR_isGoal hg, b1_s, if_neg (by decide), e1, b2_s]
  by_cases q : jdg M n k c d w = -1
  · obtain ⟨q1, q2, q3, q4⟩ := (jdg_m1 hM).mp q
    have hds : Ds M (qO M) (qD M) (jrun M n k d (qD M - d) 0 c).2 := by
      have key : ∀ (r j c : Nat), d + j + r = qD M → Ds M (qO M) (d + j) c → (jrun M n k d r j c).1 = none → Ds M (qO M) (qD M) (jrun M n k d r j c).2 := by
        intro r
        induction r with
        | zero =>
          intro j c hj hc _
          rw [show d + j = qD M by omega] at hc
          exact hc
        | succ r ih =>
          intro j c hj hc hx
          rw [jrun] at hx ⊢
          cases ej : jst M n k c d j with
          | none => rw [ej] at hx; cases hx
          | some c' =>
            rw [ej] at hx
            exact ih (j + 1) c' (by omega) (Ds_suc hM hc (show d + j < qD M by omega) (rOk_j q2 (by omega)) (jst_suc ej)) hx
      exact key _ 0 c (by have := hw.2.1; omega) ⟨hw.1, hw.2.2.2.1, hw.2.2.1⟩ q4
    obtain ⟨m2, e2, g2, hR2⟩ := tR_ends hM hE (p1.rw hW) hR1 hN hds.1 (by have := hds.2.2; omega) hg (show qB M < 3 by omega)
    refine ⟨m2, ?_, p1.trans g2.ps.pq, hR2⟩
    rw [if_pos q, if_pos q, h46 q1 q2 q3 q4, (p1.rw hW).2.2.2.1, e2, b2_s]
  · exact ⟨m1, by rw [if_neg q, if_neg q], p1, hR1⟩
end JUDGE
