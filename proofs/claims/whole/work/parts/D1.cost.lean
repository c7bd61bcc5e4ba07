/-! COST: the call. -/
/-- o is the least of the rows before j -/
def LK (M : Mt) (g c d j : Nat) (o : Option Int) : Prop := (∀ x, o = some x → sm3 x ∧ ∃ n, n < j ∧ rOk M d n = true ∧ x = kvr M g n d c) ∧ ∀ n, n < j → rOk M d n = true → lowr o (kvr M g n d c)
section COSTST
variable {N : Nat} {M : Mt}
theorem LK_step {g c d j : Nat} {o : Option Int} (hr : rOk M d j = true) (h3 : sm3 (kvr M g j d c)) (h : LK M g c d j o) : LK M g c d (j + 1) (some (omn o (kvr M g j d c))) := by
  obtain ⟨n1, n2, n3⟩ := omn_le o (kvr M g j d c)
  refine ⟨fun x hx => ?_, fun n hn hn' => ?_⟩
  · have hx' : omn o (kvr M g j d c) = x := Option.some.inj hx
    rcases n3 with q | q
    · rw [← hx', q]
      exact ⟨h3, j, by omega, hr, rfl⟩
    · rw [hx'] at q
      obtain ⟨a1, n, a2, a3, a4⟩ := h.1 x q
      exact ⟨a1, n, by omega, a3, a4⟩
  · by_cases q : n = j
    · rw [q]
      exact ⟨_, rfl, n1⟩
    · obtain ⟨y, y1, y2⟩ := h.2 n (by omega) hn'
      have := n2 y y1
      exact ⟨_, rfl, by omega⟩
theorem LK_skip {g c d j : Nat} {o : Option Int} (hr : rOk M d j = false) (h : LK M g c d j o) : LK M g c d (j + 1) o := by
  refine ⟨fun x hx => ?_, fun n hn hn' => ?_⟩
  · obtain ⟨a1, n, a2, a3, a4⟩ := h.1 x hx
    exact ⟨a1, n, by omega, a3, a4⟩
  · by_cases q : n = j
    · rw [q, hr] at hn'; cases hn'
    · exact h.2 n (by omega) hn'
theorem zI_min {o : Option Int} {x : Int} {α : Type} (hx : sm3 x) (ho : ∀ y, o = some y → sm3 y) (F : Int32 → α) : (if zI o = (-2147483648) then F (iz x) else (if zI o ≤ iz x then F (zI o) else F (iz x))) = F (zI (some (omn o x))) := by
  cases o with
  | none => exact if_pos rfl
  | some y =>
    have hy := ho y rfl
    rw [if_neg (show ¬ zI (some y) = -2147483648 from iz_Vn hy)]
    show (if iz y ≤ iz x then F (iz y) else F (iz x)) = F (iz (if x < y then x else y))
    by_cases q : x < y
    · rw [if_pos q, if_neg (fun w => by have := (iz_le hy hx).mp w; omega)]
    · rw [if_neg q, if_pos ((iz_le hy hx).mpr (by omega))]
theorem tR_c49 (hM : qOk M) (hE : qE M) (hN : 1000000 ≤ N) {g c d : Nat} {m : Mm} {x2 : Int32} (hg : g < 3) (hW : RW m M) (hR : RE m M) (hn : RNw m c d none) (hc : NW M c d none) (K : Int32 → Int32 → Mm → Option (Int32 × Mm)) : ∃ m' o, f_Mo_cost_L49 N (nI g) x2 K N (-2147483648) 0 m = K (zI o) (nI (4 ^ (qD M - d))) m' ∧ LK M g c d (4 ^ (qD M - d)) o ∧ RE m' M ∧ PQ m m' := by
  have hD := hM.2.1
  have hd := hc.2.1
  have h46 : 4 ^ (qD M - d) ≤ 4 ^ 6 := Nat.pow_le_pow_right (by decide) (by omega)
  have h4096 : (4 : Nat) ^ 6 = 4096 := rfl
  have elim : ∀ x : Mm, PQ m x → isl 1 (2 * (mI x 0 18 - mI x 0 24)) = nI (4 ^ (qD M - d)) := fun x hp => by
    have e4 : 2 ^ (2 * (qD M - d)) = 4 ^ (qD M - d) := by rw [Nat.pow_mul]
    rw [(hp.rw hW).2.1, (hp.rn hn).2.1, pk_sub hd, show (2 : Int32) = nI 2 from rfl, pk_mul, show (1 : Int32) = nI 1 from rfl, isl_n (by omega) (by rw [e4]; omega), e4, Nat.one_mul]
  obtain ⟨⟨m', o⟩, ⟨i1, i2, i3⟩, e⟩ := loopE (fun f (x : Mm × Option Int) j => f_Mo_cost_L49 N (nI g) x2 K f (zI x.2) (nI j) x.1) (fun x j => LK M g c d j x.2 ∧ RE x.1 M ∧ PQ m x.1) (4 ^ (qD M - d)) (fun x => K (zI x.2) (nI (4 ^ (qD M - d))) x.1) (fun f x j hj hI => by
    show ∃ x' : Mm × Option Int, _ ∧ f_Mo_cost_L49 N (nI g) x2 K (f + 1) (zI x.2) (nI j) x.1 = _
    obtain ⟨i1, i2, i3⟩ := hI
    obtain ⟨m1, e1, p1, d1⟩ := tR_isAltRow hM hN (i3.rw hW) (i3.rn hn) hd (show j < 2 ^ 32 by omega)
    rw [f_Mo_cost_L49, elim x.1 i3, if_neg (nI_ge hj (by omega)), e1, b2_s, nI_1]
    have p2 := i3.trans p1.pq
    cases hr : rOk M d j with
    | false =>
      rw [if_pos tf_f]
      exact ⟨(m1, x.2), ⟨LK_skip hr i1, RE_PD p1 i2, p2⟩, rfl⟩
    | true =>
      rw [if_neg tft]
      obtain ⟨m2, o2, k1, k2, k3, k4⟩ := tR_knownBy hM hE hN hg (p2.rw hW) (RE_PD p1 i2) (p2.rn hn) hc hr (d1 hr)
      rw [KN_eq hM hE hc hr k2] at k1
      have h3 := (kvr_is hM hE (g := g) hc hr).2
      rw [k1, b2_s, show zI (some (kvr M g j d c)) = iz (kvr M g j d c) from rfl, zI_min h3 (fun y hy => (i1.1 y hy).1) (fun z => f_Mo_cost_L49 N (nI g) x2 K f z (nI (j + 1)) m2)]
      exact ⟨(m2, some (omn x.2 (kvr M g j d c))), ⟨LK_step hr h3 i1, k3, p2.trans k4⟩, rfl⟩) (fun f x hI => by
    show f_Mo_cost_L49 N (nI g) x2 K (f + 1) (zI x.2) (nI (4 ^ (qD M - d))) x.1 = _
    rw [f_Mo_cost_L49, elim x.1 hI.2.2, if_pos (nI_le (Nat.le_refl _) (by omega))]) (4 ^ (qD M - d)) N (m, none) 0 (by omega) (by omega) ⟨⟨fun x hx => (by cases hx), fun n hn => by omega⟩, hR, PQ.refl⟩
  exact ⟨m', o, e, i1, i2, i3⟩
variable {tl : Bool} {c d : Nat} {w : Option Nat} {im : Nat → Option (Nat × Nat × Option Nat)} {len : Nat} {S : St} {m mr : Mm}
/-- rows were walked once more -/
theorem REL_c {im' : Nat → Option (Nat × Nat × Option Nat)} {S' : St} {m' mr' : Mm} (h : REL true M c d w im len S m mr) (hC : CIb M S' m') (f1 : ∀ k, m'.1 0 k = m.1 0 k) (f2 : ∀ k, m'.2.1 0 k = m.2.1 0 k) (f3 : ∀ a, a < 30 ∨ a = 98 ∨ a = 100 → m'.2.2.1 a = m.2.2.1 a) (f4 : ∀ a, a < 34 ∨ a = 99 → m'.2.2.2 a = m.2.2.2 a) (hw : WK m' (stm im')) (him : ∀ k, k < 4 → im' k = im k) (hp : PQ mr mr') (hR : RE mr' M) : REL true M c d w im' len S' m' mr' := by
  obtain ⟨a1, a2, a3, a4, a5, a6, a7⟩ := h
  have e8 : ∀ a k, a = 1 ∨ a = 98 ∨ a = 100 → mX m' a k = mX m a k := fun a k ha => by unfold mX; rw [f3 a (by omega)]
  have e9 : ∀ k, mYy m' 99 k = mYy m 99 k := fun k => by unfold mYy; rw [f4 99 (by omega)]
  have er : ∀ a k, a = 1 ∨ a = 13 ∨ a = 11 ∨ a = 12 → mX mr' a k = mX mr a k := fun a k ha => by unfold mX; rw [hp.2.2.1 a (by omega) (by omega) (by omega) (by omega) (by omega)]
  have er2 : ∀ k, mYy mr' 10 k = mYy mr 10 k := fun k => by unfold mYy; rw [hp.2.2.2 10 (by omega) (by omega) (by omega) (by omega) (by omega) (by omega) (by omega)]
  refine ⟨a1, ⟨⟨hC.cs0, hw⟩, hC.2.1.1, (f1 6).trans a2.2.2.1, (f2 7).trans a2.2.2.2.1, (f1 8).trans a2.2.2.2.2⟩, ⟨hp.rw a3.1, (hp.1 0 15 (by omega)).trans a3.2.1, hp.rn a3.2.2⟩, fun k hk => ?_, ?_, fun _ => ⟨(a6 rfl).1, hC, hR⟩, fun q => by cases q⟩
  · have := a4 k hk
    rw [him k hk]
    unfold IMk at *
    cases e : im k with
    | none =>
      rw [e] at this
      show mX m' 98 k = 0 ∧ mX mr' 13 k = 0
      rw [e8 98 k (by omega), er 13 k (by omega)]
      exact this
    | some q =>
      rw [e] at this
      show mX m' 98 k = 1 ∧ mX mr' 13 k = 1 ∧ NW M q.1 q.2.1 q.2.2 ∧ mYy m' 99 k = cs q.1 q.2.1 ∧ mX m' 100 k = zOpt q.2.2 ∧ mYy mr' 10 k = rz q.1 ∧ mX mr' 11 k = nI q.2.1 ∧ mX mr' 12 k = zOpt q.2.2
      rw [e8 98 k (by omega), er 13 k (by omega), e9, e8 100 k (by omega), er2, er 11 k (by omega), er 12 k (by omega)]
      exact this
  · obtain ⟨t1, t2, t3, t4⟩ := a5
    refine ⟨t1, (f1 1).trans t2, (hp.1 0 1 (by omega)).trans t3, fun i hi => ?_⟩
    rw [e8 1 i (by omega), er 1 i (by omega)]
    exact t4 i hi
theorem ro_0 (j : Nat) : ro 0 j = 0 := by unfold ro; rw [Nat.zero_div]
theorem rOk_0 (hM : qOk M) (d : Nat) : rOk M d 0 = true := rOk_of hM (Nat.pow_pos (by decide)) (fun i hi => by
  rw [ro_0]
  have := (hM.2.2.2.2.2.2.1 (d + i) (by omega)).1
  omega)
/-- both leasts are one -/
theorem least_one (hM : qOk M) (hE : qE M) {g c d : Nat} {o o' : Option Int} (hw : NW M c d none) (h1 : ∀ x, o = some x → sm6 x ∧ ∃ T, Bl M (qD M - d) (dg c 12 * 8 ^ 12) T ∧ x = knV M g c T) (h2 : Dn M g c (vS M false (qO M) g (qB M) (qD M - d) c) o (dg c 12 * 8 ^ 12) d) (h3 : LK M g c d (4 ^ (qD M - d)) o') : ∃ x, o = some x ∧ o' = some x := by
  have hd := hw.2.1
  have hBl : ∀ T, Bl M (qD M - d) (dg c 12 * 8 ^ 12) T → ∃ n, rOk M d n = true ∧ knV M g c T = kvr M g n d c := fun T hT => by
    obtain ⟨n, k1, k2, k3⟩ := Bl_row hM (d := d) (c := c) (r := qD M - d) (j := 0) (n := 0) (by omega) (by decide) (fun i hi => by omega) hT
    rw [Nat.zero_add] at k1 k2 k3
    refine ⟨n, rOk_of hM k1 k2, ?_⟩
    rw [k3]
    rfl
  have hrow : ∀ n, rOk M d n = true → Bl M (qD M - d) (dg c 12 * 8 ^ 12) (trc M n d c (qD M - d)) := fun n hr => by
    have := row_Bl (c := c) (fun i hi => rOk_j hr (show i < qD M - d by omega)) (r := qD M - d) (j := 0) (by omega)
    rw [Nat.zero_add] at this
    exact this
  have hlow : ∀ n, rOk M d n = true → lowr o (kvr M g n d c) := fun n hr => by
    rcases h2 with q | q
    · obtain ⟨x, x1, x2⟩ := q
      have := sure_kvr hM hE (g := g) hw hr
      exact ⟨x, x1, by omega⟩
    · exact q _ (hrow n hr)
  obtain ⟨x, x1, _⟩ := hlow 0 (rOk_0 hM d)
  obtain ⟨y, y1, _⟩ := h3.2 0 (Nat.pow_pos (by decide)) (rOk_0 hM d)
  obtain ⟨_, T, hT, ex⟩ := h1 x x1
  obtain ⟨n, hn, en⟩ := hBl T hT
  obtain ⟨_, n', hn1, hn2, ey⟩ := h3.1 y y1
  obtain ⟨x', z1, z2⟩ := hlow n' hn2
  obtain ⟨y', z3, z4⟩ := h3.2 n (rOk_lt hn) hn
  have q1 : x = x' := Option.some.inj (x1.symm.trans z1)
  have q2 : y = y' := Option.some.inj (y1.symm.trans z3)
  have : x = y := by
    rw [← en, ← ex] at z4
    rw [← ey] at z2
    omega
  exact ⟨x, x1, by rw [y1, this]⟩
theorem st_cost (hN : 1000000 ≤ N) (h : REL tl M c d w im len S m mr) (hs : stm im + 1 < 2 ^ 31) (x : Int32) : ∃ r m' S' mr' im', f_SC_cost N S x m = some (r, m', S') ∧ f_Mo_cost N x mr = some (r, mr') ∧ REL tl M c d w im' len S' m' mr' ∧ Pay S S' 12 ∧ stm im' ≤ stm im + 1 := by
  have hM := h.1.1
  have hD := hM.2.1
  have hd := h.1.2.2.1
  have hB := hM.2.2.2.1
  have hO := hM.2.2.1
  rcases look_or (N := N) h x with ⟨e0, hw⟩ | ⟨e0, rfl, rfl, g, hg, rfl⟩
  · have eC : f_SC_cost N S x m = some (-2147483648, m, S) := by unfold f_SC_cost; rw [e0, b1_s, if_pos rfl]
    have eR : f_Mo_cost N x mr = some (-2147483648, mr) := by
      unfold f_Mo_cost
      rcases hw with rfl | ⟨rfl, g2⟩ | ⟨rfl, ⟨g, hg, rfl⟩, s, rfl⟩
      · rw [h.2.2.1.2.1, if_pos tf_f]
      · rw [h.2.2.1.2.1, if_neg tft, g2, b1_s, if_pos rfl]
      · rw [h.2.2.1.2.1, if_neg tft, tR_isGoal hg, b1_s, if_neg (show ¬ (1 : Int32) = 0 by decide), h.2.2.1.2.2.2.2, if_neg (zs_m1 (h.1.2.2.2.2.2 s rfl).1)]
    exact ⟨_, m, S, mr, im, eC, eR, h, Pay.refl.mono (by omega), by omega⟩
  · obtain ⟨hE, hC, hR⟩ := h.2.2.2.2.2.1 rfl
    obtain ⟨mr1, G, A, e1, _, _, hR1, hP1, _⟩ := tR_solve hM hE hN (show qO M ≤ 3 by omega) (Nat.le_refl _) (mean := false) hg (show qB M < 3 by omega) h.2.2.1.1 hR h.2.2.1.2.2 h.1.2
    obtain ⟨mr2, o', e2, h3, hR2, hP2⟩ := tR_c49 (x2 := (lz (vNow M false (qO M) g (qB M) (qD M - d) c none)).toInt32) hM hE hN hg (hP1.rw h.2.2.1.1) hR1 (hP1.rn h.2.2.1.2.2) h.1.2 (fun (z12_3 : Int32) (z12_4 : Int32) (m12 : Mm) => some ((z12_3 - (lz (vNow M false (qO M) g (qB M) (qD M - d) c none)).toInt32), m12))
    obtain ⟨m1, S1, k1, r1⟩ := t_worthNow (k := 0) hM hE hN hg (by omega) hC h.2.1.2.2.2 h.1.2
    obtain ⟨m2, S2, k2, r2, t2, _⟩ := t_bookEnds (N := N) (b := qB M) hM hE hN hg (by omega) r1.1
    have hcn1 := r1.2.1.cn h.2.1.2.2.2
    have r12 : Rq1 M S m S2 m2 (4 + (qB M + 1)) := r1.trans ⟨r2.1, r2.2.1, r2.2.2.1⟩
    have hW2 : WK m2 (stm im) := WK_f (r12.2.1.1 30 3 (by omega)) (fun a i _ => r12.2.1.2.2.2.2 a i) h.2.1.1.2
    have hfl : sm6 (vS M false (qO M) g (qB M) (qD M - d) c) := vS_sm hM hE (Nat.sub_le _ _) (by rw [show qD M - (qD M - d) = d by omega]; exact ⟨h.1.2.1, h.1.2.2.2.2.1, h.1.2.2.2.1⟩)
    obtain ⟨m3, S3, o, k3, hC3, hPay, hFr, hW3, l1, l2⟩ := tC_least (N := N) hM hE hN hg h.1.2 hfl r2.1 hW2 hs t2
    obtain ⟨v, v1, v2⟩ := least_one hM hE h.1.2 l1 l2 h3
    have hmE : 33 + 3 * (3 * g + qB M) ∈ eKl := eE_mem g hg (qB M) (by omega)
    have hB3 : mI m1 10 3 = nI (qB M) := r1.1.2.1.1.2.2.2.1
    have eC : f_SC_cost N S (nI g) m = some (iz (v - vS M false (qO M) g (qB M) (qD M - d) c), m3, S3) := by
      unfold f_SC_cost
      rw [e0, b1_s, if_neg (show ¬ (1 : Int32) = 0 by decide), show (0 : Int32) = nI 0 from rfl, k1]
      show ckc (ShC S1) (b4 (f_Book_ends N S1 (nI g) (mI m1 10 3) m1) _) = _
      rw [ckc_t r1.1.1, hB3, k2]
      show ckc (ShC S2) (ck _ (b4 (f_Rows_leastGreatest N S2 (mJ m1 0 7) (33 + 3 * (3 * g + qB M)) (lz (vS M false (qO M) g (qB M) (qD M - d) c)) m2) _)) = _
      rw [ckc_t r2.1.1, ck_t hmE, hcn1.1, k3]
      show ckc (ShC S3) (some ((zMx o - lz (vS M false (qO M) g (qB M) (qD M - d) c)).toInt32, m3, S3)) = _
      rw [ckc_t hC3.1, v1]
      show some ((lz v - lz (vS M false (qO M) g (qB M) (qD M - d) c)).toInt32, m3, S3) = _
      rw [minus_lz, lz_i]
    have eR : f_Mo_cost N (nI g) mr = some (iz (v - vS M false (qO M) g (qB M) (qD M - d) c), mr2) := by
      unfold f_Mo_cost
      rw [tf_f] at e1
      rw [h.2.2.1.2.1, if_neg tft, tR_isGoal hg, b1_s, if_neg (show ¬ (1 : Int32) = 0 by decide), h.2.2.1.2.2.2.2, if_pos (show zOpt none = -1 from rfl), h.2.2.1.1.2.2.1, h.2.2.1.1.2.2.2.1, e1, b2_s, e2, v2, lz_i]
      show some (iz v - iz (vS M false (qO M) g (qB M) (qD M - d) c), mr2) = _
      rw [show iz v - iz (vS M false (qO M) g (qB M) (qD M - d) c) = iz (v - vS M false (qO M) g (qB M) (qD M - d) c) from (Int32.ofInt_sub _ _).symm]
    have hst : stm (fun k => if k = 4 then some (stm im + 1, 0, none) else im k) = stm im + 1 := rfl
    exact ⟨_, m3, S3, mr2, fun k => if k = 4 then some (stm im + 1, 0, none) else im k, eC, eR, REL_c h hC3 (fun k => (hFr.1 0 k (by omega)).trans (r12.2.1.1 0 k (by omega))) (fun k => (hFr.2.1 0 k (by omega)).trans (r12.2.1.2.1 k)) (fun a q => (hFr.2.2.1 a q).trans (r12.2.1.2.2.1 a q)) (fun a q => (hFr.2.2.2 a q).trans (r12.2.1.2.2.2.1 a q)) (by rw [hst]; exact hW3) (fun k hk => if_neg (by omega)) (hP1.pq.trans hP2) hR2, (r12.2.2.trans hPay).mono (by omega), by rw [hst]; omega⟩
end COSTST
