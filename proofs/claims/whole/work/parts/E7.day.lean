/-! THE TEXT: a day. -/
def mDay (M : Mt) (k : Nat) (C Kd G : Nat → Nat) : Mt := ((qH M, qD M + 1, qO M, qB M, qL M), M.2.1, (fun d => if d = qD M then k else qA M d), (fun d a => if d = qD M then C a else qC M d a), (fun d a => if d = qD M then Kd a else qK M d a), fun d a => if d = qD M then G a else qG M d a)
section DAY
variable {N : Nat} {S : St} {len x : Nat} {M : Mt}
theorem tgq_g (kd g : Nat) (hg : g < 2 ^ 31) : tgq kd g = if kd = 2 then -1 else nI ((tgq kd g).toNatClampNeg) := by
  unfold tgq
  by_cases q : kd = 2
  · rw [if_pos q, if_pos q]
  · rw [if_neg q, if_neg q, nI_clamp hg]
theorem DR_day (hx : x = 3 ∨ x = 10) {k p : Nat} {m m' mr mr' : Mm} (hD6 : qD M < 6) (hk1 : 1 ≤ k) (hk : k ≤ 3) (h : DyP x M k p m mr) (g1 : mI m' x 1 = nI (qD M + 1)) (gk : ∀ k, k = 0 ∨ k = 2 ∨ k = 3 ∨ k = 4 ∨ k = 5 ∨ k = 6 → mI m' x k = mI m x k) (gy : m'.2.2.2 = m.2.2.2) (ga : mX m' (x + 3) (qD M) = nI k) (gx : ∀ a i, ¬ (a = x + 3 ∧ i = qD M) → mX m' a i = mX m a i) (q0 : mI mr' 0 10 = nI (qD M + 1)) (qk : ∀ k, k = 6 ∨ k = 13 ∨ k = 14 → mI mr' 0 k = mI mr 0 k) (qx : mr'.2.2 = mr.2.2) : DR x (mDay M k (fun a => (mX m (x + 4) (3 * qD M + a)).toNatClampNeg) (fun a => (mX m (x + 5) (3 * qD M + a)).toNatClampNeg) (fun a => (mX m (x + 6) (3 * qD M + a)).toNatClampNeg)) m' mr' := by
  obtain ⟨⟨⟨⟨c1, c2, c3, c4, c5, c6, c7, c8⟩, ok, r1, r2⟩, a2, a3, a4, a5, a6, a7, a8⟩, _, _, _, h5, hal⟩ := h
  have hH := ok.1
  have qX : ∀ a i, mX mr' a i = mX mr a i := fun a i => by unfold mX; rw [qx]
  have qY : ∀ a i, mYy mr' a i = mYy mr a i := fun a i => by unfold mYy; rw [qx]
  generalize hM' : mDay M k (fun a => (mX m (x + 4) (3 * qD M + a)).toNatClampNeg) (fun a => (mX m (x + 5) (3 * qD M + a)).toNatClampNeg) (fun a => (mX m (x + 6) (3 * qD M + a)).toNatClampNeg) = M'
  have eH : qH M' = qH M := by rw [← hM']; rfl
  have eD : qD M' = qD M + 1 := by rw [← hM']; rfl
  have eO : qO M' = qO M := by rw [← hM']; rfl
  have eB : qB M' = qB M := by rw [← hM']; rfl
  have eL : qL M' = qL M := by rw [← hM']; rfl
  have eW : ∀ p s, qW M' p s = qW M p s := fun p s => by rw [← hM']; rfl
  have eA : ∀ d, qA M' d = if d = qD M then k else qA M d := fun d => by rw [← hM']; rfl
  have eC : ∀ d a, qC M' d a = if d = qD M then (mX m (x + 4) (3 * qD M + a)).toNatClampNeg else qC M d a := fun d a => by rw [← hM']; rfl
  have eK : ∀ d a, qK M' d a = if d = qD M then (mX m (x + 5) (3 * qD M + a)).toNatClampNeg else qK M d a := fun d a => by rw [← hM']; rfl
  have eG : ∀ d a, qG M' d a = if d = qD M then (mX m (x + 6) (3 * qD M + a)).toNatClampNeg else qG M d a := fun d a => by rw [← hM']; rfl
  have hnew : ∀ a, a < k → (qC M' (qD M) a ≤ 12 ∧ qK M' (qD M) a ≤ 2 ∧ (qK M' (qD M) a = 0 → qG M' (qD M) a < 3) ∧ (qK M' (qD M) a = 1 → qG M' (qD M) a < qH M)) ∧ (mX m (x + 4) (3 * qD M + a) = nI (qC M' (qD M) a) ∧ mX m (x + 5) (3 * qD M + a) = nI (qK M' (qD M) a) ∧ mX m (x + 6) (3 * qD M + a) = qT M' (qD M) a) ∧ mX mr 6 (3 * (3 * qD M + a)) = nI (qC M' (qD M) a) ∧ mX mr 6 (3 * (3 * qD M + a) + 1) = nI (qK M' (qD M) a) ∧ mX mr 6 (3 * (3 * qD M + a) + 2) = qT M' (qD M) a := fun a ha => by
    obtain ⟨cc, kd, g, z1, z2, z3, z4, ⟨z5, z6, z7⟩, z8, z9, z10⟩ := hal a ha
    have hgb : (tgq kd g).toNatClampNeg < 2 ^ 31 := by
      unfold tgq
      split
      · decide
      · next q =>
        have : g < 2 ^ 31 := by
          rcases (by omega : kd = 0 ∨ kd = 1) with w | w
          · have := z3 w; omega
          · have := z4 w; omega
        rw [nI_clamp this]; exact this
    have hkg : kd ≠ 2 → (tgq kd g).toNatClampNeg = g := fun q => by
      unfold tgq
      have : g < 2 ^ 31 := by
        rcases (by omega : kd = 0 ∨ kd = 1) with w | w
        · have := z3 w; omega
        · have := z4 w; omega
      rw [if_neg q, nI_clamp this]
    have y1 : qC M' (qD M) a = cc := by rw [eC, if_pos rfl, z5, nI_clamp (by omega)]
    have y2 : qK M' (qD M) a = kd := by rw [eK, if_pos rfl, z6, nI_clamp (by omega)]
    have y3 : qG M' (qD M) a = (tgq kd g).toNatClampNeg := by rw [eG, if_pos rfl, z7]
    have y4 : qT M' (qD M) a = tgq kd g := by
      unfold qT
      rw [y2, y3]
      by_cases q : kd = 2
      · rw [if_pos q]
        unfold tgq
        rw [if_pos q]
      · rw [if_neg q, hkg q]
        unfold tgq
        rw [if_neg q]
    rw [y1, y2, y3, y4]
    exact ⟨⟨z1, z2, fun w => by rw [hkg (by omega)]; exact z3 w, fun w => by rw [hkg (by omega)]; exact z4 w⟩, ⟨z5, z6, z7⟩, z8, z9, z10⟩
  have eT : ∀ d a, ¬ d = qD M → qT M' d a = qT M d a := fun d a q => by unfold qT; rw [eK, eG, if_neg q, if_neg q]
  refine ⟨⟨⟨?_, ?_, ?_, ?_, ?_, fun p s hp hs => ?_, fun d hd => ?_, fun d a hd ha => ?_⟩, ⟨?_, ?_, ?_, ?_, ?_, fun p s hp hs => ?_, fun d hd => ?_, fun d a hd ha => ?_⟩, ?_, ?_⟩, fun i hi => ?_, fun i hi => ?_, fun p s hp hs => ?_, fun d hd => ?_, fun d a hd ha => ?_, ?_, ?_⟩
  · rw [gk 0 (by omega), eH]; exact c1
  · rw [eD]; exact g1
  · rw [gk 2 (by omega), eO]; exact c3
  · rw [gk 3 (by omega), eB]; exact c4
  · rw [gk 6 (by omega), eL]; exact c5
  · rw [eH] at hp
    rw [gx _ _ (by omega), eW]; exact c6 p s hp hs
  · rw [eD] at hd
    rw [eA]
    by_cases q : d = qD M
    · rw [if_pos q, q]; exact ga
    · rw [if_neg q, gx _ _ (by omega)]; exact c7 d (by omega)
  · rw [eD] at hd
    rw [eA] at ha
    rw [gx _ _ (by omega), gx _ _ (by omega), gx _ _ (by omega)]
    by_cases q : d = qD M
    · rw [if_pos q] at ha
      rw [q]; exact (hnew a ha).2.1
    · rw [if_neg q] at ha
      rw [eC, eK, if_neg q, if_neg q, eT d a q]; exact c8 d a (by omega) ha
  · rw [eH]; exact hH
  · rw [eD]; omega
  · rw [eO]; exact ok.2.2.1
  · rw [eB]; exact ok.2.2.2.1
  · rw [eL, eH]; exact ok.2.2.2.2.1
  · rw [eH] at hp
    rw [eW]; exact ok.2.2.2.2.2.1 p s hp hs
  · rw [eD] at hd
    rw [eA]
    by_cases q : d = qD M
    · rw [if_pos q]; exact ⟨hk1, hk⟩
    · rw [if_neg q]; exact ok.2.2.2.2.2.2.1 d (by omega)
  · rw [eD] at hd
    rw [eA] at ha
    by_cases q : d = qD M
    · rw [if_pos q] at ha
      rw [q, eH]; exact (hnew a ha).1
    · rw [if_neg q] at ha
      rw [eC, eK, eG, if_neg q, if_neg q, if_neg q, eH]; exact ok.2.2.2.2.2.2.2 d a (by omega) ha
  · rw [qk 6 (by omega), eH]; exact r1
  · rw [eD]; exact q0
  · rw [eH] at hi
    rw [qY]
    have : mYy m' (x + 1) i = mYy m (x + 1) i := by unfold mYy; rw [gy]
    rw [this]; exact a2 i hi
  · rw [eH] at hi
    rw [qX, eL]; exact a3 i hi
  · rw [eH] at hp
    rw [qX, eW]; exact a4 p s hp hs
  · rw [eD] at hd
    rw [qX, eA]
    by_cases q : d = qD M
    · rw [if_pos q, q]; exact h5
    · rw [if_neg q]; exact a5 d (by omega)
  · rw [eD] at hd
    rw [eA] at ha
    rw [qX, qX, qX]
    by_cases q : d = qD M
    · rw [if_pos q] at ha
      rw [q]; exact (hnew a ha).2.2
    · rw [if_neg q] at ha
      rw [eC, eK, if_neg q, if_neg q, eT d a q]; exact a6 d a (by omega) ha
  · rw [gk 4 (by omega), qk 13 (by omega), eO]; exact a7
  · rw [gk 5 (by omega), qk 14 (by omega), eB]; exact a8
theorem day_loop (hx : x = 3 ∨ x = 10) (hN : 1000 ≤ N) {pos : Nat} {m0 mr0 : Mm} (hD6 : qD M < 6) {K : Int32 → Mm → Option (Int32 × Mm)} : ∀ (r k fc fr pos1 p : Nat) (m mr : Mm), k + r = 2 → r + 1 ≤ fc → r < fr → pos < pos1 → RS len pos1 m mr → DyP x M (k + 1) p m mr → FrX x m0 m → FP mr0 mr → LineTo x len pos m0 mr0 (if mI m 2 3 = 4 then (if mI m 2 7 = 12 then b3 (f_Will_addDay N S x (nI k + 1) m) fun m12 => b3 (f_Reader_step N S m12) fun m13 => some (1, m13) else (if mI m 2 3 = 3 then (if nI k = 2 then some (0, m) else b3 (f_Reader_step N S m) fun m9 => f_Reader_readDay_L20 N S x K fc (nI k + 1) m9) else some (0, m))) else (if mI m 2 3 = 3 then (if nI k = 2 then some (0, m) else b3 (f_Reader_step N S m) fun m9 => f_Reader_readDay_L20 N S x K fc (nI k + 1) m9) else some (0, m))) (f_Mo_dayLine_L39 N (fun (m13 : Mm) => (if ((mI m13 0 30)) < 12 then some (0, m13) else b2 (f_Mo_closes N m13) fun r15 m15 => (if r15 = 0 then some (0, m15) else some (1, (vI m15 0 10 ((((mI m15 0 10)) + 1))))))) fr mr) := by
  have out : ∀ {pos1 p k : Nat} {m mr : Mm}, RS len pos1 m mr → DyP x M (k + 1) p m mr → FrX x m0 m → FP mr0 mr → ¬ mI m 2 3 = 4 → LineTo x len pos m0 mr0 (some (0, m)) (if ((mI mr 0 30)) < 12 then some (0, mr) else b2 (f_Mo_closes N mr) fun r15 m15 => (if r15 = 0 then some (0, m15) else some (1, (vI m15 0 10 ((((mI m15 0 10)) + 1)))))) := by
    intro pos1 p k m mr hR hP f1 f2 h4
    have ecl : f_Mo_closes N mr = some (0, mr) := by
      unfold f_Mo_closes
      rw [(sign_of (N := N) hR.2.1).1, b1_s, decide_eq_false h4, if_pos tf_f]
    rw [ecl, b2_s, if_pos rfl]
    have : (if mI mr 0 30 < 12 then some ((0 : Int32), mr) else some (0, mr)) = some (0, mr) := by split <;> rfl
    rw [this]
    exact Or.inl ⟨m, mr, rfl, rfl, hR.2.2, f1, f2⟩
  have semi : ∀ {pos1 p k : Nat} {m mr : Mm}, k ≤ 2 → pos < pos1 → RS len pos1 m mr → DyP x M (k + 1) p m mr → FrX x m0 m → FP mr0 mr → mI m 2 3 = 4 → LineTo x len pos m0 mr0 (if mI m 2 7 = 12 then b3 (f_Will_addDay N S x (nI k + 1) m) fun m12 => b3 (f_Reader_step N S m12) fun m13 => some (1, m13) else some (0, m)) (if ((mI mr 0 30)) < 12 then some (0, mr) else b2 (f_Mo_closes N mr) fun r15 m15 => (if r15 = 0 then some (0, m15) else some (1, (vI m15 0 10 ((((mI m15 0 10)) + 1)))))) := by
    intro pos1 p k m mr hk hp hR hP f1 f2 h4
    have hp12 := hP.2.2.2.1
    rw [hP.2.1, hP.2.2.1]
    by_cases q : p = 12
    · rw [if_pos (show nI p = 12 by rw [q]; rfl), if_neg (show ¬ nI p < 12 by rw [q]; decide)]
      have hix6 : ix (nI (qD M)) 6 := nI_in hD6 (by omega)
      have eadd : f_Will_addDay N S x (nI k + 1) m = some (vI (vX m (x + 3) (qD M) (nI (k + 1))) x 1 (nI (qD M + 1))) := by
        unfold f_Will_addDay f_Will_hasRoomForDay
        rw [hP.1.1.1.2.1, if_neg (show ¬ (6 : Int32) ≤ nI (qD M) from nI_ge (b := 6) hD6 (by omega)), b1_s, if_neg (show ¬ (1 : Int32) = 0 by decide)]
        simp only [ck_t hix6, nI_clamp (show qD M < 2 ^ 31 by omega)]
        rw [nI_1, nI_1]
      have hT : TP len pos1 (vI (vX m (x + 3) (qD M) (nI (k + 1))) x 1 (nI (qD M + 1))) mr := TP_l (m := m) (fun j hj => mI_n (by omega)) (fun i => mX_n (by omega)) hR.1
      obtain ⟨p5, m5, mr5, v1, v2, v3, v4, v5, v6, v7⟩ := t_step (N := N) (S := S) hN hT
      have ecl : f_Mo_closes N mr = some (1, mr5) := by
        unfold f_Mo_closes
        rw [(sign_of (N := N) hR.2.1).1, b1_s, decide_eq_true h4, if_neg tft, v2, b3_s]
      rw [eadd, b3_s, v1, b3_s, ecl, b2_s, if_neg (show ¬ (1 : Int32) = 0 by decide)]
      have e10 : mI mr5 0 10 = nI (qD M) := (v7.1 0 10 (by omega)).trans hP.1.1.2.2.2
      rw [e10, nI_1]
      have hP5 : DyP x M (k + 1) p m mr5 := by
        have hq := DyP_s (m := m) (m' := m) hx FS.refl v7 hP
        exact hq
      have hD5 := DR_day hx (k := k + 1) (p := p) (m := m) (mr := mr5) (m' := m5) (mr' := vI mr5 0 10 (nI (qD M + 1))) hD6 (by omega) (by omega) hP5 ((v6.1 x 1 (by omega)).trans mI_s) (fun j hj => (v6.1 x j (by omega)).trans (mI_n (by omega))) (by rw [v6.2.2]; rfl) ((show mX m5 (x + 3) (qD M) = mX (vI (vX m (x + 3) (qD M) (nI (k + 1))) x 1 (nI (qD M + 1))) (x + 3) (qD M) by unfold mX; rw [v6.2.2]).trans mX_s) (fun a i q => (show mX m5 a i = mX (vI (vX m (x + 3) (qD M) (nI (k + 1))) x 1 (nI (qD M + 1))) a i by unfold mX; rw [v6.2.2]).trans (mX_n q)) mI_s (fun j hj => mI_n (by omega)) rfl
      exact Or.inr ⟨p5, _, m5, _, rfl, rfl, ⟨TP_r (mr := mr5) (fun j hj => mI_n (by omega)) (fun _ => rfl) v3.1, v3.2.1, v3.2.2⟩, by omega, hD5, (f1.trans ((FC_x hx (by omega)).trans (FC_i (Or.inr rfl)))).trans v6.fc, (f2.trans v7.fp).trans (FP_i (by omega))⟩
    · rw [if_neg (show ¬ nI p = 12 from fun w => q ((nI_eq (b := 12) (by omega) (by omega)).mp w)), if_pos (show nI p < 12 from nI_lt (b := 12) (by omega) (by omega))]
      exact Or.inl ⟨m, mr, rfl, rfl, hR.2.2, f1, f2⟩
  have hix6 : ix (nI (qD M)) 6 := nI_in hD6 (by omega)
  intro r
  induction r with
  | zero =>
    intro k fc fr pos1 p m mr hr hfc hfr hp hR hP f1 f2
    obtain ⟨fr, rfl⟩ : ∃ q, fr = q + 1 := ⟨fr - 1, by omega⟩
    have ek : k = 2 := by omega
    rw [f_Mo_dayLine_L39, (sign_of (N := N) hR.2.1).2, b1_s, hP.1.1.2.2.2]
    simp only [ck_t hix6, nI_clamp (show qD M < 2 ^ 31 by omega)]
    rw [hP.2.2.2.2.1, if_pos (show (3 : Int32) ≤ nI (k + 1) from nI_le (a := 3) (by omega) (by omega)), ite_self]
    by_cases q4 : mI m 2 3 = 4
    · rw [if_pos q4, if_neg (show ¬ mI m 2 3 = 3 by rw [q4]; decide)]
      exact semi (by omega) hp hR hP f1 f2 q4
    · rw [if_neg q4, if_pos (show nI k = 2 by rw [ek]; rfl), ite_self]
      exact out hR hP f1 f2 q4
  | succ r ih =>
    intro k fc fr pos1 p m mr hr hfc hfr hp hR hP f1 f2
    obtain ⟨fr, rfl⟩ : ∃ q, fr = q + 1 := ⟨fr - 1, by omega⟩
    obtain ⟨fc, rfl⟩ : ∃ q, fc = q + 1 := ⟨fc - 1, by omega⟩
    rw [f_Mo_dayLine_L39, (sign_of (N := N) hR.2.1).2, b1_s, hP.1.1.2.2.2]
    simp only [ck_t hix6, nI_clamp (show qD M < 2 ^ 31 by omega)]
    rw [hP.2.2.2.2.1, if_neg (show ¬ (3 : Int32) ≤ nI (k + 1) from nI_ge (b := 3) (by omega) (by omega))]
    by_cases q4 : mI m 2 3 = 4
    · rw [if_pos q4, if_neg (show ¬ mI m 2 3 = 3 by rw [q4]; decide), decide_eq_false (show ¬ mI m 2 3 = 3 by rw [q4]; decide), if_pos tf_f]
      exact semi (by omega) hp hR hP f1 f2 q4
    · rw [if_neg q4]
      by_cases q3 : mI m 2 3 = 3
      · rw [if_pos q3, decide_eq_true q3, if_neg tft, if_neg (show ¬ nI k = 2 from fun w => by have := (nI_eq (b := 2) (by omega) (by omega)).mp w; omega)]
        obtain ⟨p5, m5, mr5, v1, v2, v3, v4, v5, v6, v7⟩ := t_step (N := N) (S := S) hN hR.1
        rw [v1, v2, b3_s, b3_s, nI_1, f_Reader_readDay_L20, if_neg (show ¬ (3 : Int32) ≤ nI (k + 1) from nI_ge (b := 3) (by omega) (by omega))]
        have hP5 := DyP_s hx v6 v7 hP
        rcases alt_sim (S := S) hx hN hD6 (show k + 1 < 3 by omega) v3 hP5 with ⟨m6, mr6, a1, a2, a3, a4, a5⟩ | ⟨p6, pp, m6, mr6, a1, a2, a3, a4, a5, a6, a7⟩
        · rw [a1, a2, b2_s, b2_s, if_pos rfl, if_pos rfl]
          exact Or.inl ⟨m6, mr6, rfl, rfl, a3, (f1.trans v6.fc).trans a4, (f2.trans v7.fp).trans a5⟩
        · rw [a1, a2, b2_s, b2_s, if_neg (show ¬ (1 : Int32) = 0 by decide), if_neg (show ¬ (1 : Int32) = 0 by decide)]
          exact ih (k + 1) fc fr p6 pp m6 mr6 (by omega) (by omega) (by omega) (by omega) a3 a5 ((f1.trans v6.fc).trans a6) ((f2.trans v7.fp).trans a7)
      · rw [if_neg q3, decide_eq_false q3, if_pos tf_f]
        exact out hR hP f1 f2 q4
theorem day_sim (hx : x = 3 ∨ x = 10) (hN : 1000 ≤ N) {pos : Nat} {m mr : Mm} (hR : RS len pos m mr) (hD : DR x M m mr) : LineTo x len pos m mr (f_Reader_readDay N S x m) (f_Mo_dayLine N mr) := by
  have hD6 := hD.1.2.1.2.1
  unfold f_Reader_readDay f_Mo_dayLine f_Will_hasRoomForDay
  rw [hD.1.1.2.1, hD.1.2.2.2]
  by_cases q6 : qD M = 6
  · rw [if_pos (show (6 : Int32) ≤ nI (qD M) by rw [q6]; decide), if_pos (show nI (qD M) = 6 by rw [q6]; rfl), b1_s, if_pos rfl]
    exact Or.inl ⟨m, mr, rfl, rfl, hR.2.2, FrX.refl, FP.refl⟩
  have h6 : qD M < 6 := by omega
  have hix6 : ix (nI (qD M)) 6 := nI_in h6 (by omega)
  rw [if_neg (show ¬ (6 : Int32) ≤ nI (qD M) from nI_ge (b := 6) h6 (by omega)), if_neg (show ¬ nI (qD M) = 6 from fun w => q6 ((nI_eq (b := 6) (by omega) (by omega)).mp w)), b1_s, if_neg (show ¬ (1 : Int32) = 0 by decide)]
  obtain ⟨p1, m1, mr1, s1, s2, s3, s4, s5, s6, s7⟩ := t_step (N := N) (S := S) hN hR.1
  rw [s1, s2, b3_s, b3_s]
  have hD1 := DR_s hx s6 s7 hD
  rw [hD1.1.2.2.2]
  simp only [ck_t hix6, nI_clamp (show qD M < 2 ^ 31 by omega)]
  have hP : DyP x M 0 0 (vI m1 2 7 0) (vX (vI mr1 0 30 0) 5 (qD M) 0) := ⟨DR_beh (m := m1) (mr := mr1) hx (fun j => mI_n (by omega)) (fun _ _ => rfl) (fun _ _ => rfl) (fun _ _ => rfl) (fun _ _ _ _ => rfl) (fun j hj => mI_n (m := mr1) (by omega)) (fun _ _ => rfl) (fun i hi => mX_n (m := mr1) (by omega)) (fun i hi => mX_n (m := mr1) (by omega)) (fun i hi => mX_n (m := mr1) (by omega)) (fun i hi => mX_n (m := mr1) (by omega)) hD1, mI_s, (show mI (vI mr1 0 30 0) 0 30 = nI 0 from mI_s), by omega, mX_s, fun a ha => by omega⟩
  have hR2 : RS len p1 (vI m1 2 7 0) (vX (vI mr1 0 30 0) 5 (qD M) 0) := ⟨TP_r (mr := mr1) (fun j hj => mI_n (m := mr1) (by omega)) (fun i => mX_n (m := mr1) (by omega)) (TP_l (m := m1) (fun j hj => mI_n (by omega)) (fun _ => rfl) s3.1), s3.2.1, s3.2.2⟩
  have f1 : FrX x m (vI m1 2 7 0) := s6.fc.trans (FC_i (Or.inl rfl))
  have f2 : FP mr (vX (vI mr1 0 30 0) 5 (qD M) 0) := s7.fp.trans ((FP_i (by omega)).trans (FP_x (by omega)))
  obtain ⟨n, hn⟩ : ∃ n, N = n + 1 := ⟨N - 1, by omega⟩
  have eL : ∀ K, f_Reader_readDay_L20 N S x K N 0 (vI m1 2 7 0) = f_Reader_readDay_L20 N S x K (n + 1) 0 (vI m1 2 7 0) := fun K => by rw [← hn]
  rw [eL, f_Reader_readDay_L20, if_neg (show ¬ (3 : Int32) ≤ 0 by decide)]
  rcases alt_sim (S := S) (k := 0) hx hN h6 (by omega) hR2 hP with ⟨m6, mr6, a1, a2, a3, a4, a5⟩ | ⟨p6, pp, m6, mr6, a1, a2, a3, a4, a5, a6, a7⟩
  · have a1' : f_Reader_readAlt N S x 0 (vI m1 2 7 0) = some (0, m6) := a1
    rw [a1', a2, b2_s, b2_s, if_pos rfl, if_pos rfl]
    exact Or.inl ⟨m6, mr6, rfl, rfl, a3, f1.trans a4, f2.trans a5⟩
  · have a1' : f_Reader_readAlt N S x 0 (vI m1 2 7 0) = some (1, m6) := a1
    rw [a1', a2, b2_s, b2_s, if_neg (show ¬ (1 : Int32) = 0 by decide), if_neg (show ¬ (1 : Int32) = 0 by decide)]
    exact day_loop hx hN h6 2 0 n N p6 pp m6 mr6 (by omega) (by omega) (by omega) (by omega) a3 a5 (f1.trans a6) (f2.trans a7)
end DAY
