/-! paper; the text: end, feed. -/
section TEXT
variable {N : Nat} {M : Mt} {tl : Bool} {c d : Nat} {w : Option Nat} {im : Nat → Option (Nat × Nat × Option Nat)} {len : Nat} {S : St} {m mr : Mm}
/-- the text is another -/
theorem REL_txt {len' : Nat} {m' mr' : Mm} (h : REL tl M c d w im len S m mr) (hc1 : ∀ a k, ¬ (a = 0 ∧ k = 1) → m'.1 a k = m.1 a k) (hc2 : m'.2.1 = m.2.1) (hc3 : ∀ a, a ≠ 1 → m'.2.2.1 a = m.2.2.1 a) (hc4 : m'.2.2.2 = m.2.2.2) (hr1 : ∀ a k, ¬ (a = 0 ∧ k = 1) → mr'.1 a k = mr.1 a k) (hr2 : mr'.2.1 = mr.2.1) (hr3 : ∀ a, a ≠ 1 → mr'.2.2.1 a = mr.2.2.1 a) (hr4 : mr'.2.2.2 = mr.2.2.2) (ht : TXT m' mr' len') : REL tl M c d w im len' S m' mr' := by
  obtain ⟨a1, a2, a3, a4, a5, a6, a7⟩ := h
  have eX : ∀ a k, a ≠ 1 → mX m' a k = mX m a k := fun a k q => by unfold mX; rw [hc3 a q]
  have eY : ∀ a k, mYy m' a k = mYy m a k := fun a k => by unfold mYy; rw [hc4]
  have rX : ∀ a k, a ≠ 1 → mX mr' a k = mX mr a k := fun a k q => by unfold mX; rw [hr3 a q]
  have rY : ∀ a k, mYy mr' a k = mYy mr a k := fun a k => by unfold mYy; rw [hr4]
  have eJ : ∀ a k, mJ m' a k = mJ m a k := fun a k => by unfold mJ; rw [hc2]
  have rJ : ∀ a k, mJ mr' a k = mJ mr a k := fun a k => by unfold mJ; rw [hr2]
  refine ⟨a1, ⟨⟨CS0_f (fun a k q => hc1 a k (by omega)) (fun a ha => hc3 a (by omega)) a2.1.1, WK_f (hc1 30 3 (by omega)) (fun a i ha => by rw [hc3 a (by omega)]; exact Or.inl rfl) a2.1.2⟩, CW_f (fun k => hc1 10 k (by omega)) (fun a ha => hc3 a (by omega)) a2.2.1, (hc1 0 6 (by omega)).trans a2.2.2.1, (eJ 0 7).trans a2.2.2.2.1, (hc1 0 8 (by omega)).trans a2.2.2.2.2⟩, ⟨RW_of (fun k hk => hr1 0 k (by omega)) (fun a ha => hr3 a (by omega)) a3.1, (hr1 0 15 (by omega)).trans a3.2.1, (rJ 0 23).trans a3.2.2.1, (hr1 0 24 (by omega)).trans a3.2.2.2.1, (hr1 0 25 (by omega)).trans a3.2.2.2.2⟩, fun k hk => ?_, ht, fun q => ⟨(a6 q).1, CIb_f (fun a k q => hc1 a k (by omega)) (fun a ha => hc3 a (by omega)) (fun a _ => by rw [hc4]) (a6 q).2.1, ?_⟩, a7⟩
  · have := a4 k hk
    unfold IMk at *
    simp only [eX 98 _ (by omega), eX 100 _ (by omega), eY, rX 13 _ (by omega), rX 11 _ (by omega), rX 12 _ (by omega), rY]
    exact this
  · have hR := (a6 q).2.2
    have e1 : mI mr' 0 33 = mI mr 0 33 := hr1 0 33 (by omega)
    unfold RE at *
    simp only [e1, rX 15 _ (by omega), rY]
    exact hR
theorem st_end (h : REL tl M c d w im len S m mr) (x : Int32) : ∃ r m' mr' len', f_SC_end N S x m = some (r, m') ∧ f_Mo_end N x mr = some (r, mr') ∧ REL tl M c d w im len' S m' mr' := by
  obtain ⟨t1, t2, t3, t4⟩ := h.2.2.2.2.1
  have refuse : ∀ (b : Bool), (if x < 0 then some (0, m) else (if x ≤ nI len then some (1, (vI m 0 1 x)) else some (0, m))) = some ((0 : Int32), m) → f_Mo_in N x 0 (nI len) = some 0 → ∃ r m' mr' len', f_SC_end N S x m = some (r, m') ∧ f_Mo_end N x mr = some (r, mr') ∧ REL tl M c d w im len' S m' mr' := by
    intro _ e1 e2
    refine ⟨0, m, mr, len, ?_, ?_, h⟩
    · unfold f_SC_end
      rw [t2, e1]
    · unfold f_Mo_end
      rw [t3, e2, b1_s, if_pos rfl]
  rcases pk_ix x (n := len + 1) (by omega) with hx | hx | ⟨j, hj, rfl⟩
  · exact refuse true (if_pos hx) (in_lo hx)
  · have hb := i32_big (show len + 1 ≤ 1000 by omega) hx
    have h2 : ¬ x ≤ nI len := by
      rw [Int32.le_iff_toInt_le, nI_toInt (by omega)]
      have := hb.2.2
      omega
    refine refuse true (by rw [if_neg hb.1, if_neg h2]) ?_
    have := in_hi (N := N) (show len + 1 ≤ 1000 by omega) hx
    rw [nI_pred] at this
    exact this
  · refine ⟨1, vI m 0 1 (nI j), vI mr 0 1 (nI j), j, ?_, ?_, REL_txt h (fun a k q => ?_) rfl (fun _ _ => rfl) rfl (fun a k q => ?_) rfl (fun _ _ => rfl) rfl ⟨by omega, ?_, ?_, t4⟩⟩
    · unfold f_SC_end
      rw [t2, if_neg (nI_pos (by omega)), if_pos (nI_le (by omega) (by omega))]
    · have := in_ok (N := N) (show len + 1 ≤ 1000 by omega) hj
      rw [nI_pred] at this
      unfold f_Mo_end
      rw [t3, this, b1_s, if_neg (show ¬ (1 : Int32) = 0 by decide)]
    · show u2 m.1 0 1 (nI j) a k = _
      unfold u2
      rw [if_neg q]
    · show u2 mr.1 0 1 (nI j) a k = _
      unfold u2
      rw [if_neg q]
    · show u2 m.1 0 1 (nI j) 0 1 = _
      rw [u2_s]
    · show u2 mr.1 0 1 (nI j) 0 1 = _
      rw [u2_s]
/-- the chances of a sort, from a day on -/
def chA (M : Mt) (s e a : Nat) : Nat := fo (fun x i => if qK M e i = 0 ∧ qG M e i = s then x + qC M e i else x) a 0 (qA M e)
def chD (M : Mt) (s d : Nat) : Nat := fo (fun x e => chA M s e x) 0 d (qD M - d)
theorem tC_ch (hM : qOk M) (hW : CW m 10 M) (hN : 1000000 ≤ N) {s : Nat} (hs : s < 3) (hd : d ≤ qD M) : f_Will_chancesFrom N S 10 (nI d) (nI s) m = some (nI (chD M s d)) := by
  have hD := hM.2.1
  unfold f_Will_chancesFrom
  refine loopF (fun n (x : Nat) e => f_Will_chancesFrom_L5 N S 10 (nI s) m (fun (z14_3 : Int32) (z14_4 : Int32) => some z14_3) n (nI x) (nI e)) (fun x e => chA M s e x) (qD M) (fun x => some (nI x)) (fun n x e he => ?_) (fun n x => ?_) (qD M - d) N 0 d (by omega) (by omega)
  · show f_Will_chancesFrom_L5 N S 10 (nI s) m _ (n + 1) (nI x) (nI e) = _
    have hA := hM.2.2.2.2.2.2.1 e he
    rw [f_Will_chancesFrom_L5, hW.2.1, if_neg (nI_ge he (by omega)), nI_1]
    refine loopF (fun n' (y : Nat) a => f_Will_chancesFrom_L17 N S 10 (nI s) (nI e) m (fun (z7_3 : Int32) (z7_5 : Int32) => f_Will_chancesFrom_L5 N S 10 (nI s) m (fun (z14_3 : Int32) (z14_4 : Int32) => some z14_3) n z7_3 (nI (e + 1))) n' (nI y) (nI a)) (fun y i => if qK M e i = 0 ∧ qG M e i = s then y + qC M e i else y) (qA M e) (fun y => f_Will_chancesFrom_L5 N S 10 (nI s) m (fun (z14_3 : Int32) (z14_4 : Int32) => some z14_3) n (nI y) (nI (e + 1))) (fun n' y a ha => ?_) (fun n' y => ?_) (qA M e) N x 0 (by omega) (by omega)
    · show f_Will_chancesFrom_L17 N S 10 (nI s) (nI e) m _ (n' + 1) (nI y) (nI a) = _
      have hq := hM.2.2.2.2.2.2.2 e a he ha
      rw [f_Will_chancesFrom_L17, tW_alts hM hW he, b1_s, if_neg (nI_ge ha (by omega)), tW_thing hM hW he ha, b1_s, nI_1]
      unfold qS
      by_cases k0 : qK M e a = 0
      · have hg := hq.2.2.1 k0
        rw [if_pos k0]
        by_cases g : qG M e a = s
        · rw [if_pos (by rw [g]), tW_chance hM hW he ha, b1_s, nI_add, if_pos ⟨k0, g⟩]
        · rw [if_neg (fun q => g ((nI_eq (by omega) (by omega)).mp q)), if_neg (fun q => g q.2)]
      · rw [if_neg k0, if_neg (fun q => nI_m1 (v := s) (by omega) q.symm), if_neg (fun q => k0 q.1)]
    · show f_Will_chancesFrom_L17 N S 10 (nI s) (nI e) m _ (n' + 1) (nI y) (nI (qA M e)) = _
      rw [f_Will_chancesFrom_L17, tW_alts hM hW he, b1_s, if_pos (nI_le (Nat.le_refl _) (by omega))]
  · show f_Will_chancesFrom_L5 N S 10 (nI s) m _ (n + 1) (nI x) (nI (qD M)) = _
    rw [f_Will_chancesFrom_L5, hW.2.1, if_pos (nI_le (Nat.le_refl _) (by omega))]
theorem tR_ch (hM : qOk M) (hW : RW mr M) (hN : 1000000 ≤ N) {s : Nat} (hs : s < 3) (hd : d ≤ qD M) (x1 : Int32) (K : Int32 → Int32 → Option Int32) : f_Mo_paper_L27 N x1 (nI s) mr K N 0 (nI d) = K (nI (chD M s d)) (nI (qD M)) := by
  have hD := hM.2.1
  refine loopF (fun n (x : Nat) e => f_Mo_paper_L27 N x1 (nI s) mr K n (nI x) (nI e)) (fun x e => chA M s e x) (qD M) (fun x => K (nI x) (nI (qD M))) (fun n x e he => ?_) (fun n x => ?_) (qD M - d) N 0 d (by omega) (by omega)
  · show f_Mo_paper_L27 N x1 (nI s) mr K (n + 1) (nI x) (nI e) = _
    have hA := hM.2.2.2.2.2.2.1 e he
    rw [f_Mo_paper_L27, hW.2.1, if_neg (nI_ge he (by omega)), nI_1]
    refine loopF (fun n' (y : Nat) a => f_Mo_paper_L39 N x1 (nI s) (nI e) mr (fun (z13_3 : Int32) (z13_5 : Int32) => f_Mo_paper_L27 N x1 (nI s) mr K n z13_3 (nI (e + 1))) n' (nI y) (nI a)) (fun y i => if qK M e i = 0 ∧ qG M e i = s then y + qC M e i else y) (qA M e) (fun y => f_Mo_paper_L27 N x1 (nI s) mr K n (nI y) (nI (e + 1))) (fun n' y a ha => ?_) (fun n' y => ?_) (qA M e) N x 0 (by omega) (by omega)
    · show f_Mo_paper_L39 N x1 (nI s) (nI e) mr _ (n' + 1) (nI y) (nI a) = _
      have hq := hM.2.2.2.2.2.2.2 e a he ha
      rw [f_Mo_paper_L39, ck_t (nI_in (show e < 6 by omega) (by omega)), nI_clamp (by omega), hW.2.2.2.2.2.1 e he, if_neg (nI_ge ha (by omega)), tR_alt1 hM hW he ha, b1_s, nI_1]
      by_cases k0 : qK M e a = 0
      · have hg := hq.2.2.1 k0
        have eqT : qT M e a = nI (qG M e a) := by unfold qT; rw [if_neg (by omega)]
        rw [if_pos ((nI_k0 hq.2.1).mpr k0), tR_alt2 hM hW he ha, b1_s, eqT]
        by_cases g : qG M e a = s
        · rw [if_pos (by rw [g]), tR_alt0 hM hW he ha, b1_s, nI_add, if_pos ⟨k0, g⟩]
        · rw [if_neg (fun q => g ((nI_eq (by omega) (by omega)).mp q)), if_neg (fun q => g q.2)]
      · rw [if_neg (fun q => k0 ((nI_k0 hq.2.1).mp q)), if_neg (fun q => k0 q.1)]
    · show f_Mo_paper_L39 N x1 (nI s) (nI e) mr _ (n' + 1) (nI y) (nI (qA M e)) = _
      rw [f_Mo_paper_L39, ck_t (nI_in (show e < 6 by omega) (by omega)), nI_clamp (by omega), hW.2.2.2.2.2.1 e he, if_pos (nI_le (Nat.le_refl _) (by omega))]
  · show f_Mo_paper_L27 N x1 (nI s) mr K (n + 1) (nI x) (nI (qD M)) = _
    rw [f_Mo_paper_L27, hW.2.1, if_pos (nI_le (Nat.le_refl _) (by omega))]
theorem st_paper (hN : 1000000 ≤ N) (h : REL tl M c d w im len S m mr) (x y : Int32) : ∃ r, f_SC_paper N S x y m = some r ∧ f_Mo_paper N x y mr = some r := by
  have hM := h.1.1
  have hH := hM.1
  have hD := hM.2.1
  have hd := h.1.2.2.1
  have hW := h.2.1.2.1
  have hWr := h.2.2.1.1
  have refuse : (f_Mo_in N x 0 (nI (qH M) - 1) = some 0) → f_Mo_paper N x y mr = some (-1) := by
    intro e
    unfold f_Mo_paper f_Mo_isHeir
    rw [hWr.1, e, b1_s, ck_t (Or.inl rfl), b1_s, if_pos rfl]
  cases tl with
  | false =>
    refine ⟨-1, ?_, refuse ?_⟩
    · unfold f_SC_paper
      rw [h.2.1.2.2.1, if_pos tf_f]
    · have h0 := (h.2.2.2.2.2.2 rfl).1
      rcases pk_ix x (n := qH M) (by omega) with hx | hx | ⟨j, hj, rfl⟩
      · exact in_lo hx
      · exact in_hi (by omega) hx
      · omega
  | true =>
    rcases pk_ix x (n := qH M) (by omega) with hx | hx | ⟨j, hj, rfl⟩
    · refine ⟨-1, ?_, refuse (in_lo hx)⟩
      unfold f_SC_paper f_Will_isHeir
      rw [h.2.1.2.2.1, if_neg tft, if_pos hx, b1_s, if_pos rfl]
    · refine ⟨-1, ?_, refuse (in_hi (by omega) hx)⟩
      unfold f_SC_paper f_Will_isHeir
      rw [h.2.1.2.2.1, if_neg tft, if_neg (i32_big (by omega) hx).1, hW.1, if_pos hx, b1_s, if_pos rfl]
    · have eC : f_SC_paper N S (nI j) y m = (if y < 0 then some ((-1)) else (if y < 3 then b1 (f_Will_chancesFrom N S 10 (nI d) y m) fun r7 => b1 (f_Will_worth N S 10 (nI j) y m) fun r8 => some ((r7 * r8)) else some ((-1)))) := by
        unfold f_SC_paper
        rw [h.2.1.2.2.1, if_neg tft, tW_isHeir hM hW (by omega), b1_s, if_neg (by simp [hj, tf]), h.2.1.2.2.2.1, t_dayOf h.1.2.1.1 (by omega), b1_s]
      have eR : f_Mo_paper N (nI j) y mr = b1 (f_Mo_in N y 0 2) fun r3 => (if r3 = 0 then some ((-1)) else f_Mo_paper_L27 N (nI j) y mr (fun (z22_3 : Int32) (z22_4 : Int32) => ck (ix ((((3 * nI j)) + y)) 9) (some ((z22_3 * ((mX mr 7 (((((3 * nI j)) + y)).toNatClampNeg))))))) N 0 (nI d)) := by
        unfold f_Mo_paper f_Mo_isHeir
        rw [hWr.1, in_ok (by omega) hj, b1_s, ck_t (Or.inr rfl), b1_s, if_neg (show ¬ (1 : Int32) = 0 by decide), h.2.2.1.2.2.2.1]
      rw [eC, eR]
      rcases pk_ix y (n := 3) (by omega) with hy | hy | ⟨s, hs, rfl⟩
      · exact ⟨-1, by rw [if_pos hy], by rw [in_lo hy, b1_s, if_pos rfl]⟩
      · have hb := i32_big (by omega) hy
        have h2 : f_Mo_in N y 0 2 = some 0 := in_hi (n := 3) (by omega) hy
        have h3 : ¬ y < 3 := by
          rw [Int32.lt_iff_toInt_lt]
          have t3 : (3 : Int32).toInt = 3 := by decide
          have := hb.2.2
          omega
        exact ⟨-1, by rw [if_neg hb.1, if_neg h3], by rw [h2, b1_s, if_pos rfl]⟩
      · have h2 : f_Mo_in N (nI s) 0 2 = some 1 := in_ok (n := 3) (by omega) hs
        refine ⟨nI (chD M s d) * nI (qW M j s), ?_, ?_⟩
        · rw [if_neg (nI_pos (by omega)), if_pos (show nI s < 3 from nI_lt (b := 3) hs (by omega)), tC_ch hM hW hN hs hd, b1_s, tW_worth hM hW hj hs, b1_s]
        · rw [h2, b1_s, if_neg (show ¬ (1 : Int32) = 0 by decide), tR_ch hM hWr hN hs hd, r_ix3, ck_t (nI_in (by omega) (by omega)), nI_clamp (by omega), hWr.2.2.2.2.1 j s hj hs]
end TEXT
