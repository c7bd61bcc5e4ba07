/-! THE TEXT: an alt of a day. -/
def tgq (kd g : Nat) : Int32 := if kd = 2 then -1 else nI g
/-- an alt as it was read -/
def AltP (x : Nat) (M : Mt) (m mr : Mm) (a : Nat) : Prop := ∃ c kd g, c ≤ 12 ∧ kd ≤ 2 ∧ (kd = 0 → g < 3) ∧ (kd = 1 → g < qH M) ∧ (mX m (x + 4) (3 * qD M + a) = nI c ∧ mX m (x + 5) (3 * qD M + a) = nI kd ∧ mX m (x + 6) (3 * qD M + a) = tgq kd g) ∧ mX mr 6 (3 * (3 * qD M + a)) = nI c ∧ mX mr 6 (3 * (3 * qD M + a) + 1) = nI kd ∧ mX mr 6 (3 * (3 * qD M + a) + 2) = tgq kd g
/-- a day half read -/
def DyP (x : Nat) (M : Mt) (k p : Nat) (m mr : Mm) : Prop := DR x M m mr ∧ mI m 2 7 = nI p ∧ mI mr 0 30 = nI p ∧ p ≤ 12 ∧ mX mr 5 (qD M) = nI k ∧ ∀ a, a < k → AltP x M m mr a
def AltTo (x len pos : Nat) (M : Mt) (k : Nat) (m mr : Mm) (a b : Option (Int32 × Mm)) : Prop := (∃ m' mr', a = some (0, m') ∧ b = some (0, mr') ∧ Plc m' mr' ∧ FrX x m m' ∧ FP mr mr') ∨ ∃ pos' p' m' mr', a = some (1, m') ∧ b = some (1, mr') ∧ RS len pos' m' mr' ∧ pos < pos' ∧ DyP x M (k + 1) p' m' mr' ∧ FrX x m m' ∧ FP mr mr'
section ALT
variable {N : Nat} {S : St} {len x : Nat} {M : Mt}
theorem late_of {m : Mm} (hW : CW m x M) (ok : qOk M) {i : Nat} (hi : i < qH M) : f_Will_isLate N S x (nI i) m = some (tf (lt1 (qL M) i)) := by
  have h3 := ok.1
  have h8 := qL8 ok
  unfold f_Will_isLate
  rw [if_neg (nI_pos (by omega)), hW.1, if_neg (nI_ge hi (by omega)), hW.2.2.2.2.1, isr_n (by omega) (by omega), nI_a1]
  unfold lt1
  by_cases q : qL M / 2 ^ i % 2 = 1
  · rw [decide_eq_true q, q, if_pos (show nI 1 = 1 from rfl)]; rfl
  · rw [decide_eq_false q, show qL M / 2 ^ i % 2 = 0 by omega, if_neg (show ¬ nI 0 = 1 by decide)]; rfl
theorem AltP_s {m m' mr mr' : Mm} {a : Nat} (hS : FS m m') (hQ : FQ mr mr') (h : AltP x M m mr a) : AltP x M m' mr' a := by
  have eX : ∀ a i, mX m' a i = mX m a i := fun a i => by unfold mX; rw [hS.2.2]
  have qX : ∀ a i, mX mr' a i = mX mr a i := fun a i => by unfold mX; rw [hQ.2.2]
  unfold AltP at *
  simp only [eX, qX]
  exact h
theorem DyP_s (hx : x = 3 ∨ x = 10) {k p : Nat} {m m' mr mr' : Mm} (hS : FS m m') (hQ : FQ mr mr') (h : DyP x M k p m mr) : DyP x M k p m' mr' := ⟨DR_s hx hS hQ h.1, (hS.1 2 7 (by omega)).trans h.2.1, (hQ.1 0 30 (by omega)).trans h.2.2.1, h.2.2.2.1, (show mX mr' 5 (qD M) = mX mr 5 (qD M) by unfold mX; rw [hQ.2.2]).trans h.2.2.2.2.1, fun a ha => AltP_s hS hQ (h.2.2.2.2.2 a ha)⟩
/-- what stands behind the alts that were read doesn't matter -/
theorem DyP_beh (hx : x = 3 ∨ x = 10) {k p : Nat} {m m' mr mr' : Mm} (hk : k < 3) (h1 : m'.1 = m.1) (hy : m'.2.2.2 = m.2.2.2) (h2 : ∀ a i, ¬ (x + 4 ≤ a ∧ a ≤ x + 6 ∧ i = 3 * qD M + k) → mX m' a i = mX m a i) (q1 : mr'.1 = mr.1) (qy : mr'.2.2.2 = mr.2.2.2) (q6 : ∀ a i, ¬ (a = 6 ∧ 3 * (3 * qD M + k) ≤ i) → mX mr' a i = mX mr a i) (h : DyP x M k p m mr) : DyP x M k p m' mr' := by
  have hA := h.1.1.2.1.2.2.2.2.2.2.1
  refine ⟨DR_beh (m := m) (mr := mr) hx (fun j => by unfold mI; rw [h1]) (fun i _ => by unfold mYy; rw [hy]) (fun i hi => h2 _ _ (by omega)) (fun i hi => h2 _ _ (by omega)) (fun a i ha hi => h2 _ _ (by omega)) (fun j _ => by unfold mI; rw [q1]) (fun i _ => by unfold mYy; rw [qy]) (fun i hi => q6 _ _ (by omega)) (fun i hi => q6 _ _ (by omega)) (fun i hi => q6 _ _ (by omega)) (fun i hi => q6 _ _ (by omega)) h.1, (show mI m' 2 7 = mI m 2 7 by unfold mI; rw [h1]).trans h.2.1, (show mI mr' 0 30 = mI mr 0 30 by unfold mI; rw [q1]).trans h.2.2.1, h.2.2.2.1, (q6 _ _ (by omega)).trans h.2.2.2.2.1, fun a ha => ?_⟩
  obtain ⟨c, kd, g, b1', b2', b3', b4', ⟨b5, b6, b7⟩, b8, b9, b10⟩ := h.2.2.2.2.2 a ha
  exact ⟨c, kd, g, b1', b2', b3', b4', ⟨(h2 _ _ (by omega)).trans b5, (h2 _ _ (by omega)).trans b6, (h2 _ _ (by omega)).trans b7⟩, (q6 _ _ (by omega)).trans b8, (q6 _ _ (by omega)).trans b9, (q6 _ _ (by omega)).trans b10⟩
/-- the alt is laid down -/
theorem alt_fin (hx : x = 3 ∨ x = 10) (hN : 1000 ≤ N) {pos pos1 k p v kd g : Nat} {m mr m0 mr0 : Mm} (hp : pos < pos1) (hD6 : qD M < 6) (hk : k < 3) (hT : TP len pos1 m mr) (hP : DyP x M k p m mr) (f1 : FrX x m0 m) (f2 : FP mr0 mr) (hv : v ≤ 12) (hkd : kd ≤ 2) (h0 : kd = 0 → g < 3) (h1 : kd = 1 → g < qH M) (r0 : mX mr 6 (3 * (3 * qD M + k)) = nI v) (r1 : mX mr 6 (3 * (3 * qD M + k) + 1) = nI kd) (r2 : mX mr 6 (3 * (3 * qD M + k) + 2) = tgq kd g) : AltTo x len pos M k m0 mr0 (b3 (f_Will_putAlt N S x (nI k) (nI v) (nI kd) (tgq kd g) m) fun m8 => b3 (f_Reader_step N S m8) fun m9 => some (1, m9)) (ck (ix ((mI mr 0 10)) 6) (ck (ix ((mI mr 0 10)) 6) (b3 (f_Mo_next N (vX mr 5 (((mI mr 0 10)).toNatClampNeg) ((((mX mr 5 (((mI mr 0 10)).toNatClampNeg))) + 1)))) fun m11 => some (1, m11)))) := by
  have hix6 : ix (nI (qD M)) 6 := nI_in hD6 (by omega)
  have hix : ix (nI (3 * qD M + k)) 18 := nI_in (by omega) (by omega)
  have eput : f_Will_putAlt N S x (nI k) (nI v) (nI kd) (tgq kd g) m = some (vX (vX (vX m (x + 4) (3 * qD M + k) (nI v)) (x + 5) (3 * qD M + k) (nI kd)) (x + 6) (3 * qD M + k) (tgq kd g)) := by
    unfold f_Will_putAlt f_Will_hasRoomForDay
    rw [hP.1.1.1.2.1, if_neg (show ¬ (6 : Int32) ≤ nI (qD M) from nI_ge (b := 6) hD6 (by omega)), b1_s, if_neg (show ¬ (1 : Int32) = 0 by decide), if_neg (nI_pos (by omega)), if_neg (show ¬ (3 : Int32) ≤ nI k from nI_ge (b := 3) hk (by omega)), show (3 : Int32) = nI 3 from rfl, pk_mul, nI_add, Nat.mul_comm (qD M) 3]
    simp only [ck_t hix, nI_clamp (show 3 * qD M + k < 2 ^ 31 by omega)]
  rw [eput, b3_s, hP.1.1.2.2.2]
  simp only [ck_t hix6, nI_clamp (show qD M < 2 ^ 31 by omega)]
  rw [hP.2.2.2.2.1, nI_1]
  generalize hm8 : vX (vX (vX m (x + 4) (3 * qD M + k) (nI v)) (x + 5) (3 * qD M + k) (nI kd)) (x + 6) (3 * qD M + k) (tgq kd g) = m8
  have x4 : mX m8 (x + 4) (3 * qD M + k) = nI v := by rw [← hm8, mX_n (by omega), mX_n (by omega), mX_s]
  have x5 : mX m8 (x + 5) (3 * qD M + k) = nI kd := by rw [← hm8, mX_n (by omega), mX_s]
  have x6 : mX m8 (x + 6) (3 * qD M + k) = tgq kd g := by rw [← hm8, mX_s]
  have xo : ∀ a i, ¬ (x + 4 ≤ a ∧ a ≤ x + 6 ∧ i = 3 * qD M + k) → mX m8 a i = mX m a i := fun a i q => by rw [← hm8, mX_n (by omega), mX_n (by omega), mX_n (by omega)]
  have e1 : m8.1 = m.1 := by rw [← hm8]; rfl
  have ey : m8.2.2.2 = m.2.2.2 := by rw [← hm8]; rfl
  have ef : FrX x m m8 := by rw [← hm8]; exact ((FC_x hx (by omega)).trans (FC_x hx (by omega))).trans (FC_x hx (by omega))
  have hP8 : DyP x M k p m8 mr := DyP_beh hx hk e1 ey xo rfl rfl (fun _ _ _ => rfl) hP
  have hP9 : DyP x M (k + 1) p m8 (vX mr 5 (qD M) (nI (k + 1))) := by
    refine ⟨DR_beh (m := m8) (mr := mr) hx (fun _ => rfl) (fun _ _ => rfl) (fun _ _ => rfl) (fun _ _ => rfl) (fun _ _ _ _ => rfl) (fun _ _ => rfl) (fun _ _ => rfl) (fun i hi => mX_n (by omega)) (fun i hi => mX_n (by omega)) (fun i hi => mX_n (by omega)) (fun i hi => mX_n (by omega)) hP8.1, hP8.2.1, hP8.2.2.1, hP8.2.2.2.1, mX_s, fun a ha => ?_⟩
    have e6 : ∀ i, mX (vX mr 5 (qD M) (nI (k + 1))) 6 i = mX mr 6 i := fun i => mX_n (by omega)
    unfold AltP
    simp only [e6]
    by_cases q : a = k
    · rw [q]
      exact ⟨v, kd, g, hv, hkd, h0, h1, ⟨x4, x5, x6⟩, r0, r1, r2⟩
    · exact hP8.2.2.2.2.2 a (by omega)
  have hT9 : TP len pos1 m8 (vX mr 5 (qD M) (nI (k + 1))) := TP_r (mr := mr) (fun _ _ => rfl) (fun i => mX_n (by omega)) (TP_l (m := m) (fun j _ => by unfold mI; rw [e1]) (fun i => xo _ _ (by omega)) hT)
  obtain ⟨p5, m5, mr5, v1, v2, v3, v4, v5, v6, v7⟩ := t_step (N := N) (S := S) hN hT9
  rw [v1, v2, b3_s, b3_s]
  exact Or.inr ⟨p5, p, m5, mr5, rfl, rfl, v3, by omega, DyP_s hx v6 v7 hP9, (f1.trans ef).trans v6.fc, (f2.trans (FP_x (by omega))).trans v7.fp⟩
theorem isW_t {m : Mm} {w : Int64} (h : isW m w = true) : mI m 2 3 = 1 ∧ mJ m 2 6 = w := by
  unfold isW at h
  rw [Bool.and_eq_true, decide_eq_true_eq, decide_eq_true_eq] at h
  exact h
theorem isW_f {m : Mm} {w : Int64} (h : isW m w = false) (h1 : mI m 2 3 = 1) : ¬ mJ m 2 6 = w := by
  unfold isW at h
  rw [decide_eq_true h1, Bool.true_and, decide_eq_false_iff_not] at h
  exact h
theorem alt_sim (hx : x = 3 ∨ x = 10) (hN : 1000 ≤ N) {pos k p : Nat} {m mr : Mm} (hD6 : qD M < 6) (hk : k < 3) (hR : RS len pos m mr) (hP : DyP x M k p m mr) : AltTo x len pos M k m mr (f_Reader_readAlt N S x (nI k) m) (f_Mo_altHere N mr) := by
  have hp12 := hP.2.2.2.1
  have hix6 : ix (nI (qD M)) 6 := nI_in hD6 (by omega)
  have hb0 : ix (nI (3 * (3 * qD M + k))) 54 := nI_in (by omega) (by omega)
  have hb1 : ix (nI (3 * (3 * qD M + k) + 1)) 54 := nI_in (by omega) (by omega)
  have hb2 : ix (nI (3 * (3 * qD M + k) + 2)) 54 := nI_in (by omega) (by omega)
  have ei : (3 : Int32) * (3 * nI (qD M) + nI k) = nI (3 * (3 * qD M + k)) := by rw [show (3 : Int32) = nI 3 from rfl, pk_mul, nI_add, pk_mul]
  have e1' : nI (3 * (3 * qD M + k)) + 1 = nI (3 * (3 * qD M + k) + 1) := nI_1 _
  have e2' : nI (3 * (3 * qD M + k)) + 2 = nI (3 * (3 * qD M + k) + 2) := nI_add _ 2
  have e12 : (12 : Int32) - nI p = nI (12 - p) := pk_sub (a := 12) (b := p) hp12
  unfold f_Reader_readAlt f_Mo_altHere
  rw [hP.1.1.2.2.2]
  simp only [ck_t hix6, nI_clamp (show qD M < 2 ^ 31 by omega)]
  rw [hP.2.1, hP.2.2.1, hP.2.2.2.2.1, e12]
  have hnum : (f_Reader_isNumber N S 1 (nI (12 - p)) m = some 0 ∧ f_Mo_isNumber N 1 (nI (12 - p)) mr = some 0) ∨ ∃ v, 1 ≤ v ∧ v ≤ 12 - p ∧ f_Reader_isNumber N S 1 (nI (12 - p)) m = some 1 ∧ f_Mo_isNumber N 1 (nI (12 - p)) mr = some 1 ∧ mI m 2 5 = nI v ∧ mJ mr 0 5 = lN v := num_of (N := N) (S := S) (l := 1) (u := 12 - p) hR.2.1 (by omega) (by omega)
  rcases hnum with ⟨n1, n2⟩ | ⟨v, v1, v2, n1, n2, n3, n4⟩
  · rw [n1, n2, b1_s, b1_s, if_pos rfl, if_pos rfl]
    exact Or.inl ⟨m, mr, rfl, rfl, hR.2.2, FrX.refl, FP.refl⟩
  rw [n1, n2, b1_s, b1_s, if_neg (show ¬ (1 : Int32) = 0 by decide), if_neg (show ¬ (1 : Int32) = 0 by decide), n3, n4, lN_i, nI_add, ei, e1', e2']
  simp only [ck_t hb0, ck_t hb1, ck_t hb2, nI_clamp (show 3 * (3 * qD M + k) < 2 ^ 31 by omega), nI_clamp (show 3 * (3 * qD M + k) + 1 < 2 ^ 31 by omega), nI_clamp (show 3 * (3 * qD M + k) + 2 < 2 ^ 31 by omega)]
  -- the chance
  have hP1 : DyP x M k (p + v) (vI m 2 7 (nI (p + v))) (vI (vX mr 6 (3 * (3 * qD M + k)) (nI v)) 0 30 (nI (p + v))) := by
    have hq := DyP_beh hx (m := m) (m' := m) (mr := mr) (mr' := vX mr 6 (3 * (3 * qD M + k)) (nI v)) hk rfl rfl (fun _ _ _ => rfl) rfl rfl (fun a i q => mX_n (by omega)) hP
    exact ⟨DR_beh (m := m) (mr := vX mr 6 (3 * (3 * qD M + k)) (nI v)) hx (fun j => mI_n (by omega)) (fun _ _ => rfl) (fun _ _ => rfl) (fun _ _ => rfl) (fun _ _ _ _ => rfl) (fun j hj => mI_n (by omega)) (fun _ _ => rfl) (fun _ _ => rfl) (fun _ _ => rfl) (fun _ _ => rfl) (fun _ _ => rfl) hq.1, mI_s, mI_s, by omega, hq.2.2.2.2.1, hq.2.2.2.2.2⟩
  have r0 : mX (vI (vX mr 6 (3 * (3 * qD M + k)) (nI v)) 0 30 (nI (p + v))) 6 (3 * (3 * qD M + k)) = nI v := mX_s
  have hT1 : TP len pos (vI m 2 7 (nI (p + v))) (vI (vX mr 6 (3 * (3 * qD M + k)) (nI v)) 0 30 (nI (p + v))) := TP_r (mr := mr) (fun j hj => mI_n (by omega)) (fun i => mX_n (by omega)) (TP_l (m := m) (fun j hj => mI_n (by omega)) (fun i => rfl) hR.1)
  have fC1 : FrX x m (vI m 2 7 (nI (p + v))) := FC_i (Or.inl rfl)
  have fP1 : FP mr (vI (vX mr 6 (3 * (3 * qD M + k)) (nI v)) 0 30 (nI (p + v))) := (FP_x (by omega)).trans (FP_i (by omega))
  obtain ⟨p3, m3, mr5, s1, s2, s3, s4, s5, s6, s7⟩ := t_step (N := N) (S := S) hN hT1
  rw [s1, s2, b3_s, b3_s]
  have hP3 := DyP_s hx s6 s7 hP1
  have r0' : mX mr5 6 (3 * (3 * qD M + k)) = nI v := (show mX mr5 6 (3 * (3 * qD M + k)) = _ by unfold mX; rw [s7.2.2]; exact r0)
  have fC3 := fC1.trans (s6.fc (x := x))
  have fP3 := fP1.trans s7.fp
  clear hT1 s1 s2 r0 hP1
  generalize hmr : vX mr5 6 (3 * (3 * qD M + k) + 2) (-1) = mr6
  have hK6 : Tkn m3 mr6 := by rw [← hmr]; exact s3.2.1
  have hpl6 : Plc m3 mr6 := by rw [← hmr]; exact s3.2.2
  have hT6 : TP len p3 m3 mr6 := by rw [← hmr]; exact TP_r (mr := mr5) (fun _ _ => rfl) (fun i => mX_n (by omega)) s3.1
  have hP6 : DyP x M k (p + v) m3 mr6 := by rw [← hmr]; exact DyP_beh hx (m := m3) (mr := mr5) hk rfl rfl (fun _ _ _ => rfl) rfl rfl (fun a i q => mX_n (by omega)) hP3
  have r6 : mX mr6 6 (3 * (3 * qD M + k)) = nI v := by rw [← hmr, mX_n (by omega)]; exact r0'
  have r62 : mX mr6 6 (3 * (3 * qD M + k) + 2) = -1 := by rw [← hmr]; exact mX_s
  have fP6 : FP mr mr6 := by rw [← hmr]; exact fP3.trans (FP_x (by omega))
  obtain ⟨n, rfl⟩ : ∃ n, N = n + 10 := ⟨N - 10, by omega⟩
  have w5 := wrd_of hK6 (pak5 n)
  have w3 := wrd_of hK6 (pak3 n)
  have w4 := wrd_of hK6 (pak4 n)
  rw [w5, b1_s, w3, w4]
  simp only [jn, b1_s]
  cases c5 : isW m3 wNone with
  | true =>
    obtain ⟨t1, t2⟩ := isW_t c5
    have hp3 : pos < p3 := s5 (by rw [t1]; decide)
    rw [if_neg tft, if_pos t1, if_neg (show ¬ mJ m3 2 6 = 499967946343 by rw [t2]; decide), if_neg (show ¬ mJ m3 2 6 = 427071202675 by rw [t2]; decide), if_pos (show mJ m3 2 6 = 1852796517 from t2)]
    exact alt_fin hx hN (v := v) (kd := 2) (g := 0) (p := p + v) hp3 hD6 hk (TP_r (mr := mr6) (fun _ _ => rfl) (fun i => mX_n (by omega)) hT6) (DyP_beh hx (m := m3) (mr := mr6) hk rfl rfl (fun _ _ _ => rfl) rfl rfl (fun a i q => mX_n (by omega)) hP6) fC3 (fP6.trans (FP_x (by omega))) (by omega) (by omega) (fun w => by omega) (fun w => by omega) ((mX_n (by omega)).trans r6) mX_s ((mX_n (by omega)).trans r62)
  | false =>
    rw [if_pos tf_f]
    cases c3 : isW m3 wThing with
    | true =>
      obtain ⟨t1, t2⟩ := isW_t c3
      have hp3 : pos < p3 := s5 (by rw [t1]; decide)
      rw [if_neg tft, if_pos t1, if_pos (show mJ m3 2 6 = 499967946343 from t2)]
      obtain ⟨p7, m7, mr7, u1, u2', u3, u4, u5, u6, u7⟩ := t_step (N := n + 10) (S := S) hN hT6
      rw [u1, u2', b3_s, b3_s]
      have hnum : (f_Reader_isNumber (n + 10) S 0 2 m7 = some 0 ∧ f_Mo_isNumber (n + 10) 0 2 mr7 = some 0) ∨ ∃ g, 0 ≤ g ∧ g ≤ 2 ∧ f_Reader_isNumber (n + 10) S 0 2 m7 = some 1 ∧ f_Mo_isNumber (n + 10) 0 2 mr7 = some 1 ∧ mI m7 2 5 = nI g ∧ mJ mr7 0 5 = lN g := num_of (N := n + 10) (S := S) (l := 0) (u := 2) u3.2.1 (by omega) (by omega)
      rcases hnum with ⟨y1, y2⟩ | ⟨g, _, g2, y1, y2, y3, y4⟩
      · rw [y1, y2, b1_s, b1_s, if_pos rfl, if_pos rfl]
        exact Or.inl ⟨m7, mr7, rfl, rfl, u3.2.2, fC3.trans u6.fc, fP6.trans u7.fp⟩
      · rw [y1, y2, b1_s, b1_s, if_neg (show ¬ (1 : Int32) = 0 by decide), if_neg (show ¬ (1 : Int32) = 0 by decide), y3, y4, lN_i]
        have r7 : mX mr7 6 (3 * (3 * qD M + k)) = nI v := (show mX mr7 6 (3 * (3 * qD M + k)) = _ by unfold mX; rw [u7.2.2]; exact r6)
        exact alt_fin hx hN (v := v) (kd := 0) (g := g) (p := p + v) (show pos < p7 by omega) hD6 hk (TP_r (mr := mr7) (fun _ _ => rfl) (fun i => by rw [mX_n (by omega), mX_n (by omega)]) u3.1) (DyP_beh hx (m := m7) (mr := mr7) hk rfl rfl (fun _ _ _ => rfl) rfl rfl (fun a i q => by rw [mX_n (by omega), mX_n (by omega)]) (DyP_s hx u6 u7 hP6)) (fC3.trans u6.fc) ((fP6.trans u7.fp).trans ((FP_x (by omega)).trans (FP_x (by omega)))) (by omega) (by omega) (fun w => by omega) (fun w => by omega) (by rw [mX_n (by omega), mX_n (by omega)]; exact r7) (by rw [mX_n (by omega), mX_s]; rfl) mX_s
    | false =>
      rw [if_pos tf_f]
      cases c4 : isW m3 wComes with
      | true =>
        obtain ⟨t1, t2⟩ := isW_t c4
        have hp3 : pos < p3 := s5 (by rw [t1]; decide)
        rw [if_neg tft, if_pos t1, if_neg (show ¬ mJ m3 2 6 = 499967946343 by rw [t2]; decide), if_pos (show mJ m3 2 6 = 427071202675 from t2)]
        obtain ⟨p7, m7, mr7, u1, u2', u3, u4, u5, u6, u7⟩ := t_step (N := n + 10) (S := S) hN hT6
        rw [u1, u2', b3_s, b3_s]
        have hP7 := DyP_s hx u6 u7 hP6
        have r7 : mX mr7 6 (3 * (3 * qD M + k)) = nI v := (show mX mr7 6 (3 * (3 * qD M + k)) = _ by unfold mX; rw [u7.2.2]; exact r6)
        obtain ⟨b, z1, z2, z3⟩ := name_of (N := n + 10) (S := S) hN u3.2.1
        rw [z1, z2, b1_s, b1_s]
        have fail : ∃ m' mr', some ((0 : Int32), m7) = some (0, m') ∧ some ((0 : Int32), mr7) = some (0, mr') ∧ Plc m' mr' ∧ FrX x m m' ∧ FP mr mr' := ⟨m7, mr7, rfl, rfl, u3.2.2, fC3.trans u6.fc, fP6.trans u7.fp⟩
        have em1 : f_Will_isLate (n + 10) S x (-1) m7 = some 0 := by unfold f_Will_isLate; rw [if_pos (show (-1 : Int32) < 0 by decide)]
        cases b with
        | false =>
          rw [if_pos tf_f, if_pos tf_f, em1, b1_s, if_pos rfl, if_pos trivial]
          exact Or.inl fail
        | true =>
          rw [if_neg tft, if_neg tft]
          obtain ⟨o, o1, o2, o3⟩ := named_of (S := S) hN hP7.1 (mJ m7 2 6)
          rw [z3 rfl] at o2
          rw [o1, o2, b1_s, b1_s]
          cases o with
          | none =>
            rw [show zOpt none = -1 from rfl, em1, b1_s, if_pos rfl, if_pos rfl]
            exact Or.inl fail
          | some i =>
            have hi := o3 i rfl
            have hH := hP7.1.1.2.1.1
            have hix3 : ix (nI i) 3 := nI_in (by omega) (by omega)
            rw [show zOpt (some i) = nI i from rfl, late_of hP7.1.1.1 hP7.1.1.2.1 hi, b1_s, if_neg (nI_m1 (by omega))]
            simp only [ck_t hix3, nI_clamp (show i < 2 ^ 31 by omega)]
            rw [hP7.1.2.2.1 i hi]
            cases hl : lt1 (qL M) i with
            | false =>
              rw [if_pos tf_f, if_pos tf_f]
              exact Or.inl fail
            | true =>
              rw [if_neg tft, if_neg tft]
              exact alt_fin hx hN (v := v) (kd := 1) (g := i) (p := p + v) (show pos < p7 by omega) hD6 hk (TP_r (mr := mr7) (fun _ _ => rfl) (fun i => by rw [mX_n (by omega), mX_n (by omega)]) u3.1) (DyP_beh hx (m := m7) (mr := mr7) hk rfl rfl (fun _ _ _ => rfl) rfl rfl (fun a i q => by rw [mX_n (by omega), mX_n (by omega)]) hP7) (fC3.trans u6.fc) ((fP6.trans u7.fp).trans ((FP_x (by omega)).trans (FP_x (by omega)))) (by omega) (by omega) (fun w => by omega) (fun w => hi) (by rw [mX_n (by omega), mX_n (by omega)]; exact r7) (by rw [mX_n (by omega), mX_s]; rfl) mX_s
      | false =>
        rw [if_pos tf_f]
        by_cases t1 : mI m3 2 3 = 1
        · rw [if_pos t1, if_neg (show ¬ mJ m3 2 6 = 499967946343 from isW_f c3 t1), if_neg (show ¬ mJ m3 2 6 = 427071202675 from isW_f c4 t1), if_neg (show ¬ mJ m3 2 6 = 1852796517 from isW_f c5 t1)]
          exact Or.inl ⟨m3, mr6, rfl, rfl, hpl6, fC3, fP6⟩
        · rw [if_neg t1]
          exact Or.inl ⟨m3, mr6, rfl, rfl, hpl6, fC3, fP6⟩
end ALT
