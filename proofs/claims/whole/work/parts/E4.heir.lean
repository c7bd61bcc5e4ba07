/-! THE TEXT: an heir. -/
def nL (late : Bool) (H L : Nat) : Nat := if late then L + 2 ^ H else L
theorem nL_1 : ∀ H, H < 3 → ∀ L, L < 8 → L < 2 ^ H → nL true H L < 2 ^ (H + 1) ∧ nL false H L < 2 ^ (H + 1) := by decide +kernel
theorem nL_2 : ∀ H, H < 3 → ∀ L, L < 8 → L < 2 ^ H → ∀ i, i < 3 → i < H + 1 → lt1 (nL true H L) i = if i = H then true else lt1 L i := by decide +kernel
theorem nL_3 : ∀ H, H < 3 → ∀ L, L < 8 → L < 2 ^ H → ∀ i, i < 3 → i < H + 1 → lt1 (nL false H L) i = if i = H then false else lt1 L i := by decide +kernel
theorem nL_4 : ∀ H, H < 3 → ∀ L, L < 8 → L < 2 ^ H → (nI L ||| isl 1 (nI H)) = nI (L + 2 ^ H) := by decide +kernel
theorem nL_all (H : Nat) (h : H < 3) (L : Nat) (h8 : L < 8) (hl : L < 2 ^ H) (late : Bool) : nL late H L < 2 ^ (H + 1) ∧ (∀ i, i < 3 → i < H + 1 → lt1 (nL late H L) i = if i = H then late else lt1 L i) ∧ (nI L ||| isl 1 (nI H)) = nI (L + 2 ^ H) := by
  cases late
  · exact ⟨(nL_1 H h L h8 hl).2, nL_3 H h L h8 hl, nL_4 H h L h8 hl⟩
  · exact ⟨(nL_1 H h L h8 hl).1, nL_2 H h L h8 hl, nL_4 H h L h8 hl⟩
def mHeir (M : Mt) (late : Bool) (ws : Nat → Nat) : Mt := ((qH M + 1, qD M, qO M, qB M, nL late (qH M) (qL M)), fun h s => if h = qH M then ws s else qW M h s, M.2.2)
section HEIR
variable {N : Nat} {S : St} {len x : Nat} {M : Mt}
theorem TP_r {pos : Nat} {m mr mr' : Mm} (h1 : ∀ k, k = 1 ∨ k = 2 → mI mr' 0 k = mI mr 0 k) (h2 : ∀ i, mX mr' 1 i = mX mr 1 i) (h : TP len pos m mr) : TP len pos m mr' := ⟨h.1, h.2.1, (h1 1 (by omega)).trans h.2.2.1, (h1 2 (by omega)).trans h.2.2.2.1, h.2.2.2.2.1, h.2.2.2.2.2.1, fun i hi => by rw [h2]; exact h.2.2.2.2.2.2 i hi⟩
theorem TP_l {pos : Nat} {m m' mr : Mm} (h1 : ∀ k, k = 1 ∨ k = 2 → mI m' 2 k = mI m 2 k) (h2 : ∀ i, mX m' 1 i = mX m 1 i) (h : TP len pos m mr) : TP len pos m' mr := ⟨(h1 1 (by omega)).trans h.1, (h1 2 (by omega)).trans h.2.1, h.2.2.1, h.2.2.2.1, h.2.2.2.2.1, h.2.2.2.2.2.1, fun i hi => by rw [h2]; exact h.2.2.2.2.2.2 i hi⟩
/-- an heir half read -/
def HP (x : Nat) (M : Mt) (w : Int64) (late : Bool) (j : Nat) (m mr : Mm) : Prop := DR x M m mr ∧ mYy mr 2 (qH M) = w ∧ mX mr 3 (qH M) = tf late ∧ ∀ s, s < j → ∃ v, v ≤ 20 ∧ mX m (x + 2) (3 * qH M + s) = nI v ∧ mX mr 4 (3 * qH M + s) = nI v
theorem HP_s (hx : x = 3 ∨ x = 10) {w : Int64} {late : Bool} {j : Nat} {m m' mr mr' : Mm} (hS : FS m m') (hQ : FQ mr mr') (h : HP x M w late j m mr) : HP x M w late j m' mr' := by
  have eX : ∀ a i, mX m' a i = mX m a i := fun a i => by unfold mX; rw [hS.2.2]
  have qX : ∀ a i, mX mr' a i = mX mr a i := fun a i => by unfold mX; rw [hQ.2.2]
  have qY : ∀ a i, mYy mr' a i = mYy mr a i := fun a i => by unfold mYy; rw [hQ.2.2]
  refine ⟨DR_s hx hS hQ h.1, (qY _ _).trans h.2.1, (qX _ _).trans h.2.2.1, fun s hs => ?_⟩
  rw [eX, qX]
  exact h.2.2.2 s hs
theorem HP_put (hx : x = 3 ∨ x = 10) {w : Int64} {late : Bool} {j v : Nat} {m mr : Mm} (hH : qH M < 3) (hj : j < 3) (hv : v ≤ 20) (h : HP x M w late j m mr) : HP x M w late (j + 1) (vX m (x + 2) (3 * qH M + j) (nI v)) (vX mr 4 (3 * qH M + j) (nI v)) := by
  refine ⟨DR_beh (m := m) (mr := mr) hx (fun _ => rfl) (fun _ _ => rfl) (fun i hi => mX_n (by omega)) (fun i hi => mX_n (by omega)) (fun a i ha hi => mX_n (by omega)) (fun _ _ => rfl) (fun _ _ => rfl) (fun i hi => mX_n (by omega)) (fun i hi => mX_n (by omega)) (fun i hi => mX_n (by omega)) (fun i hi => mX_n (by omega)) h.1, h.2.1, (mX_n (by omega)).trans h.2.2.1, fun s hs => ?_⟩
  by_cases q : s = j
  · exact ⟨v, hv, by rw [q, mX_s], by rw [q, mX_s]⟩
  · obtain ⟨u, h1, h2, h3⟩ := h.2.2.2 s (by omega)
    exact ⟨u, h1, (mX_n (by omega)).trans h2, (mX_n (by omega)).trans h3⟩
theorem heir_loop (hx : x = 3 ∨ x = 10) (hN : 1000 ≤ N) {w : Int64} {x2 : Int32} {x3 : Int64} {late : Bool} {pos : Nat} {m0 mr0 : Mm} (hH : qH M < 3) {K K' : Int32 → Mm → Option (Int32 × Mm)} (hk : ∀ pos' m' mr', pos < pos' → RS len pos' m' mr' → HP x M w late 3 m' mr' → FrX x m0 m' → FP mr0 mr' → LineTo x len pos m0 mr0 (K (nI 3) m') (K' (nI 3) mr')) : ∀ (r j fc fr pos1 : Nat) (m mr : Mm), j + r = 3 → r < fc → r < fr → pos < pos1 → RS len pos1 m mr → HP x M w late j m mr → FrX x m0 m → FP mr0 mr → LineTo x len pos m0 mr0 (f_Reader_readHeir_L46 N S x x2 x3 K fc (nI j) m) (f_Mo_heirLine_L64 N K' fr (nI j) mr) := by
  intro r
  induction r with
  | zero =>
    intro j fc fr pos1 m mr hr hfc hfr hp hR hP f1 f2
    obtain ⟨fc, rfl⟩ : ∃ q, fc = q + 1 := ⟨fc - 1, by omega⟩
    obtain ⟨fr, rfl⟩ : ∃ q, fr = q + 1 := ⟨fr - 1, by omega⟩
    have e : j = 3 := by omega
    subst e
    rw [f_Reader_readHeir_L46, if_pos (show (3 : Int32) ≤ nI 3 by decide), f_Mo_heirLine_L64, if_pos (show (3 : Int32) ≤ nI 3 by decide)]
    exact hk pos1 m mr hp hR hP f1 f2
  | succ r ih =>
    intro j fc fr pos1 m mr hr hfc hfr hp hR hP f1 f2
    obtain ⟨fc, rfl⟩ : ∃ q, fc = q + 1 := ⟨fc - 1, by omega⟩
    obtain ⟨fr, rfl⟩ : ∃ q, fr = q + 1 := ⟨fr - 1, by omega⟩
    rw [f_Reader_readHeir_L46, if_neg (show ¬ (3 : Int32) ≤ nI j from nI_ge (b := 3) (by omega) (by omega)), f_Mo_heirLine_L64, if_neg (show ¬ (3 : Int32) ≤ nI j from nI_ge (b := 3) (by omega) (by omega))]
    have hnum : (f_Reader_isNumber N S 0 20 m = some 0 ∧ f_Mo_isNumber N 0 20 mr = some 0) ∨ ∃ v, 0 ≤ v ∧ v ≤ 20 ∧ f_Reader_isNumber N S 0 20 m = some 1 ∧ f_Mo_isNumber N 0 20 mr = some 1 ∧ mI m 2 5 = nI v ∧ mJ mr 0 5 = lN v := num_of (N := N) (S := S) (l := 0) (u := 20) hR.2.1 (by omega) (by omega)
    rcases hnum with ⟨n1, n2⟩ | ⟨v, v1, v2, n1, n2, n3, n4⟩
    · rw [n1, n2, b1_s, b1_s, if_pos rfl, if_pos rfl]
      exact Or.inl ⟨m, mr, rfl, rfl, hR.2.2, f1, f2⟩
    · have hix : ix (nI (3 * qH M + j)) 9 := nI_in (by omega) (by omega)
      have eput : f_Will_putWorth N S x (nI j) (nI v) m = some (vX m (x + 2) (3 * qH M + j) (nI v)) := by
        unfold f_Will_putWorth f_Will_hasRoomForHeir
        rw [hP.1.1.1.1, if_neg (show ¬ (3 : Int32) ≤ nI (qH M) from nI_ge (b := 3) (by omega) (by omega)), b1_s, if_neg (show ¬ (1 : Int32) = 0 by decide), if_neg (nI_pos (by omega)), if_neg (show ¬ (3 : Int32) ≤ nI j from nI_ge (b := 3) (by omega) (by omega)), show (3 : Int32) = nI 3 from rfl, pk_mul, nI_add, Nat.mul_comm (qH M) 3]
        simp only [ck_t hix, nI_clamp (show 3 * qH M + j < 2 ^ 31 by omega)]
      rw [n1, n2, b1_s, b1_s, if_neg (show ¬ (1 : Int32) = 0 by decide), if_neg (show ¬ (1 : Int32) = 0 by decide), n3, eput, b3_s, hP.1.1.2.2.1, show (3 : Int32) = nI 3 from rfl, pk_mul, nI_add, n4, lN_i]
      simp only [ck_t hix, nI_clamp (show 3 * qH M + j < 2 ^ 31 by omega)]
      have hP' := HP_put hx hH (show j < 3 by omega) v2 hP
      have hT : TP len pos1 (vX m (x + 2) (3 * qH M + j) (nI v)) (vX mr 4 (3 * qH M + j) (nI v)) := TP_r (fun _ _ => rfl) (fun i => mX_n (by omega)) (TP_l (fun _ _ => rfl) (fun i => mX_n (by omega)) hR.1)
      obtain ⟨pos2, m2, mr2, s1, s2, s3, s4, s5, s6, s7⟩ := t_step (N := N) (S := S) hN hT
      rw [s1, s2, b3_s, b3_s, nI_1]
      exact ih (j + 1) fc fr pos2 m2 mr2 (by omega) (by omega) (by omega) (by omega) s3 (HP_s hx s6 s7 hP') (f1.trans ((FC_x hx (by omega)).trans s6.fc)) (f2.trans ((FP_x (by omega)).trans s7.fp))
theorem DR_heir (hx : x = 3 ∨ x = 10) {w : Int64} {late : Bool} {m m' mr mr' : Mm} (hH : qH M < 3) (h : HP x M w late 3 m mr) (g0 : mI m' x 0 = nI (qH M + 1)) (g6 : mI m' x 6 = nI (nL late (qH M) (qL M))) (gk : ∀ k, k = 1 ∨ k = 2 ∨ k = 3 ∨ k = 4 ∨ k = 5 → mI m' x k = mI m x k) (gy : mYy m' (x + 1) (qH M) = w) (gyo : ∀ i, i < qH M → mYy m' (x + 1) i = mYy m (x + 1) i) (gx : m'.2.2.1 = m.2.2.1) (q0 : mI mr' 0 6 = nI (qH M + 1)) (qk : ∀ k, k = 10 ∨ k = 13 ∨ k = 14 → mI mr' 0 k = mI mr 0 k) (qx : mr'.2.2 = mr.2.2) : DR x (mHeir M late (fun s => (mX m (x + 2) (3 * qH M + s)).toNatClampNeg)) m' mr' := by
  obtain ⟨⟨⟨⟨c1, c2, c3, c4, c5, c6, c7, c8⟩, ok, r1, r2⟩, a2, a3, a4, a5, a6, a7, a8⟩, hw, hlt, hws⟩ := h
  have h8 := qL8 ok
  obtain ⟨l1, l2, _⟩ := nL_all (qH M) hH (qL M) h8 ok.2.2.2.2.1 late
  have eX : ∀ a i, mX m' a i = mX m a i := fun a i => by unfold mX; rw [gx]
  have qX : ∀ a i, mX mr' a i = mX mr a i := fun a i => by unfold mX; rw [qx]
  have qY : ∀ a i, mYy mr' a i = mYy mr a i := fun a i => by unfold mYy; rw [qx]
  have hval : ∀ s, s < 3 → ∃ v, v ≤ 20 ∧ (mX m (x + 2) (3 * qH M + s)).toNatClampNeg = v ∧ mX m (x + 2) (3 * qH M + s) = nI v ∧ mX mr 4 (3 * qH M + s) = nI v := fun s hs => by
    obtain ⟨v, v1, v2, v3⟩ := hws s hs
    exact ⟨v, v1, by rw [v2, nI_clamp (by omega)], v2, v3⟩
  have eW : ∀ p s, qW (mHeir M late (fun s => (mX m (x + 2) (3 * qH M + s)).toNatClampNeg)) p s = if p = qH M then (mX m (x + 2) (3 * qH M + s)).toNatClampNeg else qW M p s := fun _ _ => rfl
  refine ⟨⟨⟨g0, (gk 1 (by omega)).trans c2, (gk 2 (by omega)).trans c3, (gk 3 (by omega)).trans c4, g6, fun p s hp hs => ?_, fun d hd => (eX _ _).trans (c7 d hd), fun d a hd ha => by rw [eX, eX, eX]; exact c8 d a hd ha⟩, ?_, q0, (qk 10 (by omega)).trans r2⟩, fun i hi => ?_, fun i hi => ?_, fun p s hp hs => ?_, fun d hd => (qX _ _).trans (a5 d hd), fun d a hd ha => by rw [qX, qX, qX]; exact a6 d a hd ha, ?_, ?_⟩
  · have hp' : p < qH M + 1 := hp
    rw [eX, eW]
    by_cases q : p = qH M
    · obtain ⟨v, v1, v2, v3, v4⟩ := hval s hs
      rw [if_pos q, v2, q]; exact v3
    · rw [if_neg q]; exact c6 p s (by omega) hs
  · refine ⟨show qH M + 1 ≤ 3 by omega, ok.2.1, ok.2.2.1, ok.2.2.2.1, l1, fun p s hp hs => ?_, ok.2.2.2.2.2.2.1, fun d a hd ha => ?_⟩
    · have hp' : p < qH M + 1 := hp
      rw [eW]
      by_cases q : p = qH M
      · obtain ⟨v, v1, v2, v3, v4⟩ := hval s hs
        rw [if_pos q, v2]; exact v1
      · rw [if_neg q]; exact ok.2.2.2.2.2.1 p s (by omega) hs
    · obtain ⟨k1, k2, k3, k4⟩ := ok.2.2.2.2.2.2.2 d a hd ha
      exact ⟨k1, k2, k3, fun q => Nat.lt_succ_of_lt (k4 q)⟩
  · have hi' : i < qH M + 1 := hi
    rw [qY]
    by_cases q : i = qH M
    · rw [q, gy, hw]
    · rw [gyo i (by omega)]; exact a2 i (by omega)
  · have hi' : i < qH M + 1 := hi
    rw [qX]
    have := l2 i (by omega) hi'
    show _ = tf (lt1 (nL late (qH M) (qL M)) i)
    rw [this]
    by_cases q : i = qH M
    · rw [if_pos q, q]; exact hlt
    · rw [if_neg q]; exact a3 i (by omega)
  · have hp' : p < qH M + 1 := hp
    rw [qX, eW]
    by_cases q : p = qH M
    · obtain ⟨v, v1, v2, v3, v4⟩ := hval s hs
      rw [if_pos q, v2, q]; exact v4
    · rw [if_neg q]; exact a4 p s (by omega) hs
  · rw [gk 4 (by omega), qk 13 (by omega)]; exact a7
  · rw [gk 5 (by omega), qk 14 (by omega)]; exact a8
theorem nar_tf (b : Bool) : vp_nar .boolean (tf b) = tf b := by cases b <;> decide
theorem heir_sim (hx : x = 3 ∨ x = 10) (hN : 1000 ≤ N) (late : Bool) {pos : Nat} {m mr : Mm} (hR : RS len pos m mr) (hD : DR x M m mr) : LineTo x len pos m mr (f_Reader_readHeir N S x (tf late) m) (f_Mo_heirLine N (tf late) mr) := by
  have hH3 := hD.1.2.1.1
  unfold f_Reader_readHeir f_Mo_heirLine f_Will_hasRoomForHeir
  rw [hD.1.1.1, hD.1.2.2.1]
  by_cases q3 : qH M = 3
  · rw [if_pos (show (3 : Int32) ≤ nI (qH M) by rw [q3]; decide), if_pos (show nI (qH M) = 3 by rw [q3]; rfl), b1_s, if_pos rfl]
    exact Or.inl ⟨m, mr, rfl, rfl, hR.2.2, FrX.refl, FP.refl⟩
  have hH : qH M < 3 := by omega
  rw [if_neg (show ¬ (3 : Int32) ≤ nI (qH M) from nI_ge (b := 3) hH (by omega)), if_neg (show ¬ nI (qH M) = 3 from fun w => q3 ((nI_eq (b := 3) (by omega) (by omega)).mp w)), b1_s, if_neg (show ¬ (1 : Int32) = 0 by decide)]
  obtain ⟨p1, m1, mr1, s1, s2, s3, s4, s5, s6, s7⟩ := t_step (N := N) (S := S) hN hR.1
  rw [s1, s2, b3_s, b3_s]
  have hD1 := DR_s hx s6 s7 hD
  obtain ⟨b, n1, n2, n3⟩ := name_of (N := N) (S := S) hN s3.2.1
  rw [n1, n2, b1_s, b1_s]
  cases b with
  | false =>
    rw [if_pos tf_f, if_pos tf_f]
    exact Or.inl ⟨m1, mr1, rfl, rfl, s3.2.2, s6.fc, s7.fp⟩
  | true =>
    rw [if_neg tft, if_neg tft]
    have ew := n3 rfl
    obtain ⟨o, o1, o2, o3⟩ := named_of (S := S) hN hD1 (mJ m1 2 6)
    rw [ew] at o2
    rw [o1, o2, b1_s, b1_s]
    cases o with
    | some i =>
      have := o3 i rfl
      rw [if_neg (show ¬ zOpt (some i) = -1 from nI_m1 (by omega)), if_neg (show ¬ zOpt (some i) = -1 from nI_m1 (by omega))]
      exact Or.inl ⟨m1, mr1, rfl, rfl, s3.2.2, s6.fc, s7.fp⟩
    | none =>
      have hixH : ix (nI (qH M)) 3 := nI_in hH (by omega)
      rw [if_pos (show zOpt none = -1 from rfl), if_pos (show zOpt none = -1 from rfl), hD1.1.2.2.1]
      simp only [ck_t hixH, nI_clamp (show qH M < 2 ^ 31 by omega)]
      rw [nar_tf]
      have hT2 : TP len p1 m1 (vX (vY mr1 2 (qH M) (mJ mr1 0 5)) 3 (qH M) (tf late)) := TP_r (fun _ _ => rfl) (fun i => mX_n (by omega)) s3.1
      have hP2 : HP x M (mJ mr1 0 5) late 0 m1 (vX (vY mr1 2 (qH M) (mJ mr1 0 5)) 3 (qH M) (tf late)) := by
        refine ⟨DR_beh (m := m1) (mr := mr1) hx (fun _ => rfl) (fun _ _ => rfl) (fun _ _ => rfl) (fun _ _ => rfl) (fun _ _ _ _ => rfl) (fun _ _ => rfl) (fun i hi => ?_) (fun i hi => mX_n (by omega)) (fun i hi => mX_n (by omega)) (fun i hi => mX_n (by omega)) (fun i hi => mX_n (by omega)) hD1, mY_s, mX_s, fun s hs => by omega⟩
        exact mY_n (m := mr1) (by omega)
      obtain ⟨p2, m2, mr2, t1, t2, t3, t4, t5, t6, t7⟩ := t_step (N := N) (S := S) hN hT2
      rw [t1, t2, b3_s, b3_s]
      have f2 : FrX x m m2 := s6.fc.trans t6.fc
      have f2' : FP mr mr2 := (s7.fp.trans (FP_y.trans (FP_x (by omega)))).trans t7.fp
      by_cases qp : mI m2 2 3 = 0
      · -- over: the first number fails
        have hov := (over_of t3.2.1).mpr qp
        obtain ⟨fc, rfl⟩ : ∃ q, N = q + 1 := ⟨N - 1, by omega⟩
        have e1 : f_Reader_isNumber (fc + 1) S 0 20 m2 = some 0 := by unfold f_Reader_isNumber; rw [qp]; rfl
        have e2 : f_Mo_isNumber (fc + 1) 0 20 mr2 = some 0 := by unfold f_Mo_isNumber; rw [hov]; rfl
        rw [f_Reader_readHeir_L46, f_Mo_heirLine_L64, if_neg (show ¬ (3 : Int32) ≤ 0 by decide), if_neg (show ¬ (3 : Int32) ≤ 0 by decide), e1, e2, b1_s, b1_s, if_pos rfl, if_pos rfl]
        exact Or.inl ⟨m2, mr2, rfl, rfl, t3.2.2, f2, f2'⟩
      · have hp12 := t5 qp
        refine heir_loop hx hN hH (fun p3 m3 mr3 hp3 u1 u2' u3 u4 => ?_) 3 0 N N p2 m2 mr2 (by omega) (by omega) (by omega) (show pos < p2 by omega) t3 (HP_s hx t6 t7 hP2) f2 f2'
        have e6 : mI mr3 0 6 = nI (qH M) := u2'.1.1.2.2.1
        have hT3 : TP len p3 m3 (vI mr3 0 6 (nI (qH M) + 1)) := TP_r (fun k hk => mI_n (by omega)) (fun i => rfl) u1.1
        have hK3 : Tkn m3 (vI mr3 0 6 (nI (qH M) + 1)) := u1.2.1
        have esg := (sign_of (N := N) hK3).1
        unfold f_Mo_closes
        rw [e6, esg, b1_s]
        by_cases q4 : mI m3 2 3 = 4
        · rw [if_pos q4, decide_eq_true q4, if_neg tft]
          have h8 := qL8 hD.1.2.1
          obtain ⟨l1, l2, l3⟩ := nL_all (qH M) hH (qL M) h8 hD.1.2.1.2.2.2.2.1 late
          have eadd : ∃ m4, f_Will_addHeir N S x (mJ m1 2 6) (tf late) m3 = some m4 ∧ mI m4 x 0 = nI (qH M + 1) ∧ mI m4 x 6 = nI (nL late (qH M) (qL M)) ∧ (∀ k, k = 1 ∨ k = 2 ∨ k = 3 ∨ k = 4 ∨ k = 5 → mI m4 x k = mI m3 x k) ∧ mYy m4 (x + 1) (qH M) = mJ mr1 0 5 ∧ (∀ i, i < qH M → mYy m4 (x + 1) i = mYy m3 (x + 1) i) ∧ m4.2.2.1 = m3.2.2.1 ∧ (∀ k, mI m4 2 k = mI m3 2 k) ∧ FrX x m3 m4 := by
            unfold f_Will_addHeir f_Will_hasRoomForHeir
            rw [u2'.1.1.1.1, if_neg (show ¬ (3 : Int32) ≤ nI (qH M) from nI_ge (b := 3) hH (by omega)), b1_s, if_neg (show ¬ (1 : Int32) = 0 by decide)]
            simp only [ck_t hixH, nI_clamp (show qH M < 2 ^ 31 by omega)]
            rw [ew, nI_1]
            cases late with
            | false =>
              rw [if_pos tf_f]
              refine ⟨_, rfl, mI_s, (mI_n (by omega)).trans u2'.1.1.1.2.2.2.2.1, fun k hk => mI_n (by omega), mY_s, fun i hi => mY_n (m := m3) (by omega), rfl, fun k => mI_n (by omega), FC_y.trans (FC_i (Or.inr rfl))⟩
            | true =>
              rw [if_neg tft, u2'.1.1.1.2.2.2.2.1, l3]
              refine ⟨_, rfl, ?_, ?_, fun k hk => ?_, mY_s, fun i hi => mY_n (m := m3) (by omega), rfl, fun k => ?_, (FC_y.trans (FC_i (Or.inr rfl))).trans (FC_i (Or.inr rfl))⟩
              · rw [mI_s, mI_n (by omega)]
                show mI m3 x 0 + 1 = _
                rw [u2'.1.1.1.1, nI_1]
              · rw [mI_n (by omega), mI_s]; rfl
              · rw [mI_n (by omega), mI_n (by omega)]; rfl
              · rw [mI_n (by omega), mI_n (by omega)]; rfl
          obtain ⟨m4, d1, d2, d3, d4, d5, d6, d7, d8, d9⟩ := eadd
          have hD4 := DR_heir hx (m' := m4) (mr' := vI mr3 0 6 (nI (qH M) + 1)) hH u2' d2 d3 d4 d5 d6 d7 (by rw [mI_s, nI_1]) (fun k hk => mI_n (by omega)) rfl
          have hT4 : TP len p3 m4 (vI mr3 0 6 (nI (qH M) + 1)) := TP_l (fun k _ => d8 k) (fun i => by unfold mX; rw [d7]) hT3
          obtain ⟨p5, m5, mr5, v1, v2, v3, v4, v5, v6, v7⟩ := t_step (N := N) (S := S) hN hT4
          rw [d1, b3_s, v1, v2, b3_s, b3_s, b2_s, ck_t (Or.inr rfl)]
          exact Or.inr ⟨p5, _, m5, mr5, rfl, rfl, v3, by omega, DR_s hx v6 v7 hD4, (u3.trans d9).trans v6.fc, (u4.trans (FP_i (by omega))).trans v7.fp⟩
        · rw [if_neg q4, decide_eq_false q4, if_pos tf_f, b2_s, ck_t (Or.inl rfl)]
          exact Or.inl ⟨m3, _, rfl, rfl, u1.2.2, u3, u4.trans (FP_i (by omega))⟩
end HEIR
