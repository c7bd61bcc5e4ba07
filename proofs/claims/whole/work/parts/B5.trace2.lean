/-! KNOWN: what comes of a row is what comes of its trace. -/
section TRACE2
variable {M : Mt}
/-- a trace of j days -/
def Tr (M : Mt) (j t : Nat) : Prop := t < 8 ^ 13 ∧ wOk (qH M) (qL M) (dg t 12) = true ∧ tt t ≤ j
theorem wOk_cb (hM : qOk M) {c : Nat} (h : wOk (qH M) (qL M) (dg c 12) = true) : (∀ h, h < 3 → cb c h = true → h < qH M) ∧ ∀ h, h < qH M → lt1 (qL M) h = false → cb c h = true := by
  have hH := hM.1
  unfold wOk at h
  rw [Bool.and_eq_true, List.all_eq_true] at h
  refine ⟨fun k hk hb => wOk_2 (qH M) (by omega) (dg c 12) (dg_lt c 12) (of_decide_eq_true h.1) k hk (of_decide_eq_true hb), fun k hk hl => ?_⟩
  have := h.2 k (List.mem_range.mpr hk)
  rw [hl, Bool.false_or] at this
  exact this
theorem Tr_tst (hM : qOk M) (hE : qE M) {j t d a : Nat} (hj : j < 6) (hd : d < qD M) (ha : a < qA M d) (h : Tr M j t) : Tr M (j + 1) (tst M t d a) := by
  have hq := hM.2.2.2.2.2.2.2 d a hd ha
  have hH := hM.1
  unfold tst
  by_cases k0 : qK M d a = 0
  · rw [if_pos k0]
    have hs := hq.2.2.1 k0
    have hm := lmk_4 hM hE t
    have h7 : am t (qG M d a) (lmk M t) < 7 := am7 hs hm (by have := h.2.2; omega)
    have e12 : dg (t + 8 ^ (4 * qG M d a + lmk M t)) 12 = dg t 12 := by rw [dg_add h7, if_neg (by omega), Nat.add_zero]
    refine ⟨?_, by rw [e12]; exact h.2.1, by rw [tt_add hs hm h7]; have := h.2.2; omega⟩
    exact add_lt h.1 (by omega) h7
  · rw [if_neg k0]
    unfold pas
    by_cases k1 : qK M d a = 1
    · rw [if_pos k1]
      have hg := hq.2.2.2 k1
      have hg3 : qG M d a < 3 := by omega
      have et : tt (cme t (qG M d a)) = tt t := (tt_of (fun i hi => by rw [cme_dg hg3, if_neg (by omega)])).1
      refine ⟨cme_lt h.1 hg3, ?_, by rw [et]; have := h.2.2; omega⟩
      have hw := wOk_cb hM h.2.1
      unfold wOk
      rw [Bool.and_eq_true, List.all_eq_true]
      refine ⟨decide_eq_true (wOk_1 (qH M) (by omega) _ (dg_lt _ 12) (fun k hk hb => ?_)), fun k hk => ?_⟩
      · have hb' : cb (cme t (qG M d a)) k = true := decide_eq_true hb
        rw [cme_cb hg3 hk] at hb'
        cases q : cb t k
        · rw [q] at hb'
          simp at hb'
          omega
        · exact hw.1 k hk q
      · rw [List.mem_range] at hk
        cases q : lt1 (qL M) k
        · rw [Bool.false_or]
          show cb (cme t (qG M d a)) k = true
          rw [cme_cb hg3 (by omega), hw.2 k hk q]
          rfl
        · rfl
    · rw [if_neg k1]
      exact ⟨h.1, h.2.1, by have := h.2.2; omega⟩
theorem bas_0 {c : Nat} (hc : c < 8 ^ 13) : bas c c = c := by
  have h2 : c / 8 ^ 12 < 8 := by
    rw [Nat.div_lt_iff_lt_mul (Nat.pow_pos (by decide)), Nat.mul_comm, ← Nat.pow_succ]
    exact hc
  unfold bas dg
  rw [Nat.mod_eq_of_lt h2]
  exact Nat.mod_add_div' c (8 ^ 12)
theorem gok_may (hM : qOk M) {c1 t s to : Nat} (hs : s < 3) (h4 : to < 4) (hm : lmk M t < 4) (hw : wOk (qH M) (qL M) (dg t 12) = true) (e : dg c1 12 = dg t 12) : gok (Bt M) (qO M) (4 * s + lmk M t) to (hl c1) ↔ may M c1 to (qO M) = true := by
  unfold gok may
  by_cases q : to = 3
  · rw [if_pos q, if_pos q, decide_eq_true_eq]
  · rw [if_neg q, if_neg q, show (4 * s + lmk M t) % 4 = lmk M t by omega]
    have hb : Bt M (lmk M t) to = cb c1 to := by
      unfold lmk cb
      rw [Bt_eq hM (dg_lt t 12) hw, e]
    rw [hb, Bool.and_eq_true, decide_eq_true_eq]
    have := (wOk_cb (c := c1) hM (by rw [e]; exact hw)).1 to (by omega)
    exact ⟨fun h => ⟨this h, h⟩, fun h => h.2⟩
/-- one day more, of the states that come of a trace -/
theorem SD_day (hM : qOk M) (hE : qE M) {c d d0 j t a c' : Nat} (hc : c < 8 ^ 13) (hcd : tt c ≤ d0) (hj : d0 + j < 6) (hd : d < qD M) (ha : a < qA M d) (ht : Tr M j t) : (∃ h', SD (Bt M) (qO M) 12 0 (tt (tst M t d a)) (tst M t d a) (hl c) (bas c (tst M t d a)) h' c') ↔ ∃ c1, (∃ h', SD (Bt M) (qO M) 12 0 (tt t) t (hl c) (bas c t) h' c1) ∧ Suc M (qO M) c1 d a c' := by
  have hq := hM.2.2.2.2.2.2.2 d a hd ha
  have hH := hM.1
  have hm := lmk_4 hM hE t
  have hbs := tt_of (c := bas c t) (c' := c) (fun i hi => by rw [dg_bas hc (by omega), if_neg (by omega)])
  have hb12 : dg (bas c t) 12 = dg t 12 := by rw [dg_bas hc (Nat.le_refl _), if_pos rfl]
  have htt := ht.2.2
  have inv : ∀ {h' c1 : Nat}, SD (Bt M) (qO M) 12 0 (tt t) t (hl c) (bas c t) h' c1 → h' = hl c1 ∧ dg c1 12 = dg t 12 := by
    intro h' c1 h
    have := SD_hl (by rw [hbs.1]; omega) hbs.2.symm h
    exact ⟨this.1, by rw [this.2.2, hb12]⟩
  unfold tst Suc
  by_cases k0 : qK M d a = 0
  · simp only [if_pos k0]
    have hs := hq.2.2.1 k0
    have h7 : am t (qG M d a) (lmk M t) < 7 := am7 hs hm (by omega)
    have h7' : dg t (4 * qG M d a + lmk M t) < 7 := h7
    have e12 : dg (t + 8 ^ (4 * qG M d a + lmk M t)) 12 = dg t 12 := by rw [dg_add h7, if_neg (by omega), Nat.add_zero]
    have eb : bas c (t + 8 ^ (4 * qG M d a + lmk M t)) = bas c t := by unfold bas; rw [e12]
    have ett := tt_add hs hm h7
    have e4 : (4 * qG M d a + lmk M t) / 4 = qG M d a := by omega
    rw [eb, ett]
    constructor
    · rintro ⟨h', h⟩
      obtain ⟨to, h1, c1, r1, r2, r3, r4, r5⟩ := SD_last (a := 4 * qG M d a + lmk M t) (by omega) ett (by rw [dg_add h7', if_pos rfl]; omega) h
      rw [Nat.add_sub_cancel] at r2
      have hi := inv r2
      rw [hi.1] at r3
      rw [e4] at r5
      exact ⟨c1, ⟨h1, r2⟩, to, r1, (gok_may hM hs r1 hm ht.2.1 hi.2).mp r3, r5⟩
    · rintro ⟨c1, ⟨h1, r2⟩, to, r1, r3, rfl⟩
      have hi := inv r2
      have := SD_app (a := 4 * qG M d a + lmk M t) (to := to) (by omega) r1 h7' r2 (by rw [hi.1]; exact (gok_may hM hs r1 hm ht.2.1 hi.2).mpr r3)
      rw [e4] at this
      exact ⟨_, this⟩
  · simp only [if_neg k0]
    have key : ∀ x, (∀ i, i < 12 → dg (pas M t d a) i = dg t i) → bas c (pas M t d a) = bas c t + x → (∀ c1, dg c1 12 = dg t 12 → pas M c1 d a = c1 + x) → ((∃ h', SD (Bt M) (qO M) 12 0 (tt (pas M t d a)) (pas M t d a) (hl c) (bas c (pas M t d a)) h' c') ↔ ∃ c1, (∃ h', SD (Bt M) (qO M) 12 0 (tt t) t (hl c) (bas c t) h' c1) ∧ c' = pas M c1 d a) := by
      intro x x1 x2 x3
      rw [x2, (tt_of x1).1]
      constructor
      · rintro ⟨h', h⟩
        obtain ⟨c1, r1, r2⟩ := SD_back (SD_cong x1 h)
        exact ⟨c1, ⟨h', r2⟩, by rw [x3 c1 (inv r2).2]; exact r1⟩
      · rintro ⟨c1, ⟨h', h⟩, r⟩
        rw [x3 c1 (inv h).2] at r
        rw [r]
        exact ⟨h', SD_cong (fun i hi => (x1 i hi).symm) (SD_shift h)⟩
    by_cases k1 : qK M d a = 1
    · have hg := hq.2.2.2 k1
      have hg3 : qG M d a < 3 := by omega
      have ep : ∀ c1, pas M c1 d a = cme c1 (qG M d a) := fun c1 => by unfold pas; rw [if_pos k1]
      have ecb : ∀ c1, dg c1 12 = dg t 12 → cb c1 (qG M d a) = cb t (qG M d a) := fun c1 e => by unfold cb; rw [e]
      have e0 : ∀ i, i < 12 → dg (pas M t d a) i = dg t i := fun i hi => by rw [ep, cme_dg hg3, if_neg (by omega)]
      have e1 : dg (pas M t d a) 12 = if cb t (qG M d a) = true then dg t 12 else dg t 12 + 2 ^ qG M d a := by rw [ep, cme_dg hg3, if_pos rfl]
      by_cases hb : cb t (qG M d a) = true
      · rw [if_pos hb] at e1
        refine key 0 e0 ?_ (fun c1 e => ?_)
        · unfold bas
          rw [e1, Nat.add_zero]
        · rw [ep, Nat.add_zero]
          unfold cme
          rw [if_pos ((ecb c1 e).trans hb)]
      · rw [if_neg hb] at e1
        refine key (2 ^ qG M d a * 8 ^ 12) e0 ?_ (fun c1 e => ?_)
        · unfold bas
          rw [e1, Nat.add_mul, Nat.add_assoc]
        · rw [ep]
          unfold cme
          rw [if_neg (fun w => hb ((ecb c1 e).symm.trans w))]
    · have ep : ∀ c1, pas M c1 d a = c1 := fun c1 => by unfold pas; rw [if_neg k1]
      exact key 0 (fun i hi => by rw [ep]) (by rw [ep, Nat.add_zero]) (fun c1 _ => by rw [ep, Nat.add_zero])
theorem Tr_0 (hM : qOk M) {c : Nat} (hL : Lg M c) : Tr M 0 (dg c 12 * 8 ^ 12) ∧ dg (dg c 12 * 8 ^ 12) 12 = dg c 12 := by
  have h8 := dg_lt c 12
  have e : ∀ i, dg (dg c 12 * 8 ^ 12) i = if i = 12 then dg c 12 else 0 := by
    intro i
    have z : ∀ k, dg 0 k = 0 := fun k => by unfold dg; rw [Nat.zero_div]
    have := dg_adds (n := 0) (i := 12) (dg c 12) (by rw [z]; omega) i
    rw [Nat.zero_add, z, Nat.zero_add] at this
    exact this
  have e12 : dg (dg c 12 * 8 ^ 12) 12 = dg c 12 := by rw [e, if_pos rfl]
  refine ⟨⟨?_, by rw [e12]; exact (hL.dm hM).2.1, ?_⟩, e12⟩
  · have : dg c 12 * 8 ^ 12 ≤ 7 * 8 ^ 12 := Nat.mul_le_mul_right _ (by omega)
    rw [Nat.pow_succ 8 12]
    have : 0 < 8 ^ 12 := Nat.pow_pos (by decide)
    omega
  · have h := (tt_of (c := dg c 12 * 8 ^ 12) (c' := 0) (fun i hi => by rw [e, if_neg (by omega)]; unfold dg; rw [Nat.zero_div])).1
    rw [h]
    decide
theorem Tr_trc (hM : qOk M) (hE : qE M) {n d c : Nat} (hL : Lg M c) (hr : ∀ j, d + j < qD M → ro n j < qA M (d + j)) : ∀ j, d + j ≤ qD M → Tr M j (trc M n d c j) := by
  have hD := hM.2.1
  intro j
  induction j with
  | zero => intro _; exact (Tr_0 hM hL).1
  | succ j ih =>
    intro hj
    exact Tr_tst hM hE (by omega) (by omega) (hr j (by omega)) (ih (by omega))
/-- what comes of a row comes of its trace -/
theorem RF_SD (hM : qOk M) (hE : qE M) {n d c : Nat} (hL : Lg M c) (hcd : tt c ≤ d) (hr : ∀ j, d + j < qD M → ro n j < qA M (d + j)) : ∀ j, d + j ≤ qD M → ∀ c', RF M n d c j c' ↔ ∃ h', SD (Bt M) (qO M) 12 0 (tt (trc M n d c j)) (trc M n d c j) (hl c) (bas c (trc M n d c j)) h' c' := by
  have hD := hM.2.1
  intro j
  induction j with
  | zero =>
    intro _ c'
    have h0 := Tr_0 hM hL
    have ht : tt (trc M n d c 0) = 0 := by have := h0.1.2.2; unfold trc; omega
    have hb : bas c (trc M n d c 0) = c := by
      have e : bas c (dg c 12 * 8 ^ 12) = bas c c := by unfold bas; rw [h0.2]
      exact e.trans (bas_0 hL.1)
    rw [ht, hb]
    exact ⟨fun h => ⟨hl c, rfl, h⟩, fun ⟨h', _, h⟩ => h⟩
  | succ j ih =>
    intro hj c'
    have hs := SD_day hM hE (c' := c') hL.1 hcd (show d + j < 6 by omega) (show d + j < qD M by omega) (hr j (by omega)) (Tr_trc hM hE hL hr j (by omega))
    refine Iff.trans ?_ hs.symm
    constructor
    · rintro ⟨c1, h1, h2⟩
      exact ⟨c1, (ih (by omega) c1).mp h1, h2⟩
    · rintro ⟨c1, h1, h2⟩
      exact ⟨c1, (ih (by omega) c1).mpr h1, h2⟩
end TRACE2
