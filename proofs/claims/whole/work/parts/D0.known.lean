/-! KNOWN: the call. -/
noncomputable def kvr (M : Mt) (g n d c : Nat) : Int := knV M g c (trc M n d c (qD M - d))
section KNOWNST
variable {N : Nat} {M : Mt}
theorem RF_ds (hM : qOk M) {n d c : Nat} (h0 : Ds M (qO M) d c) (hr : ∀ j, d + j < qD M → ro n j < qA M (d + j)) : ∀ j, d + j ≤ qD M → ∀ c', RF M n d c j c' → Ds M (qO M) (d + j) c' := by
  intro j
  induction j with
  | zero =>
    intro _ c' h
    have h' : c' = c := h
    rw [h']
    exact h0
  | succ j ih =>
    intro hj c' h
    obtain ⟨c1, h1, h2⟩ := h
    exact Ds_suc hM (ih (by omega) c1 h1) (show d + j < qD M by omega) (hr j (by omega)) h2
theorem kvr_is (hM : qOk M) (hE : qE M) {g n d c : Nat} (hw : NW M c d none) (hr : rOk M d n = true) : isG (fun v => ∃ c', RF M n d c (qD M - d) c' ∧ v = gE M g (qB M) c') (kvr M g n d c) ∧ sm3 (kvr M g n d c) := by
  obtain ⟨hL, hd, hh, hcd, _⟩ := hw
  have hrj : ∀ j, d + j < qD M → ro n j < qA M (d + j) := fun j hj => rOk_j hr (show j < qD M - d by omega)
  have hds : ∀ c', RF M n d c (qD M - d) c' → Ds M (qO M) (d + (qD M - d)) c' := RF_ds hM ⟨hL, hcd, hh⟩ hrj (qD M - d) (by omega)
  have hiff := kn_RF hM hE (g := g) hL hcd hd hrj
  have hT := Tc_trc hM hE hL hrj (qD M - d) (by omega)
  obtain ⟨h', c', hs⟩ := SD_ex hM hE (h := hl c) (c := bas c (trc M n d c (qD M - d))) rfl hT.2.1
  have hne : ∃ v, knS M g c (trc M n d c (qD M - d)) v := ⟨_, h', c', hs, rfl⟩
  obtain ⟨x, hx⟩ := isG_ex 3000 (fun v hv => by
    obtain ⟨c', h1, h2⟩ := (hiff v).mp hv
    rw [h2]
    exact (gE_b hM hE (hds c' h1).1).2) hne
  have e : kvr M g n d c = x := gr_e hx
  rw [e]
  have h2 := isG_c hiff hx
  refine ⟨h2, ?_⟩
  obtain ⟨c', h3, h4⟩ := h2.1
  rw [h4]
  exact gE_s3 hM hE (hds c' h3).1
theorem KN_eq (hM : qOk M) (hE : qE M) {g n d c : Nat} {o : Option Int} (hw : NW M c d none) (hr : rOk M d n = true) (h : KN M g n d c o) : o = some (kvr M g n d c) := by
  have hk := (kvr_is hM hE (g := g) hw hr).1
  cases o with
  | none =>
    obtain ⟨c', h1, _⟩ := hk.1
    exact absurd h1 (h.2 rfl c')
  | some x => rw [isG_u (h.1 x rfl) hk]
theorem sure_kvr (hM : qOk M) (hE : qE M) {g n d c : Nat} (hw : NW M c d none) (hr : rOk M d n = true) : vS M false (qO M) g (qB M) (qD M - d) c ≤ kvr M g n d c := by
  have hk := (kvr_is hM hE (g := g) hw hr).1
  obtain ⟨hL, hd, hh, hcd, _⟩ := hw
  have hrj : ∀ j, d + j < qD M → ro n j < qA M (d + j) := fun j hj => rOk_j hr (show j < qD M - d by omega)
  obtain ⟨c', h1, _, h3⟩ := sure_RF hM hE (g := g) (b := qB M) hL hcd hh hrj (qD M - d) (by omega)
  rw [show qD M - (d + (qD M - d)) = 0 by omega] at h3
  exact Int.le_trans h3 (hk.2 _ ⟨c', h1, rfl⟩)
variable {tl : Bool} {c d : Nat} {w : Option Nat} {im : Nat → Option (Nat × Nat × Option Nat)} {len : Nat} {S : St} {m mr : Mm}
theorem st_known (hN : 1000000 ≤ N) (h : REL tl M c d w im len S m mr) (x y : Int32) : StQ tl M c d w im len S (f_SC_known N S x y m) (f_Mo_known N x y mr) := by
  have hD := h.1.1.2.1
  have hd := h.1.2.2.1
  have hB := h.1.1.2.2.2.1
  rcases look_or (N := N) h x with ⟨e0, hw⟩ | ⟨e0, rfl, rfl, g, hg, rfl⟩
  · have eC : f_SC_known N S x y m = some (-2147483648, m, S) := by unfold f_SC_known; rw [e0, b1_s, if_pos rfl]
    have eR : f_Mo_known N x y mr = some (-2147483648, mr) := by
      unfold f_Mo_known
      rcases hw with rfl | ⟨rfl, g2⟩ | ⟨rfl, ⟨g, hg, rfl⟩, s, rfl⟩
      · rw [h.2.2.1.2.1, if_pos tf_f]
      · rw [h.2.2.1.2.1, if_neg tft, g2, b1_s, if_pos rfl]
      · rw [h.2.2.1.2.1, if_neg tft, tR_isGoal hg, b1_s, if_neg (show ¬ (1 : Int32) = 0 by decide), h.2.2.1.2.2.2.2, if_neg (zs_m1 (h.1.2.2.2.2.2 s rfl).1)]
    rw [eC, eR]
    exact StQ_same h
  · obtain ⟨n, hn, rfl⟩ := wb_of32 y
    obtain ⟨hE, hC, hR⟩ := h.2.2.2.2.2.1 rfl
    obtain ⟨mr1, e2, p2, d2⟩ := tR_isAltRow h.1.1 hN h.2.2.1.1 h.2.2.1.2.2 hd hn
    have hR1 := RE_PD p2 hR
    have eR0 : f_Mo_known N (nI g) (nI n) mr = (if tf (rOk M d n) = 0 then some (-2147483648, mr1) else b2 (f_Mo_knownBy N (nI g) mr1) fun r7 m7 => some (r7, m7)) := by
      unfold f_Mo_known
      rw [h.2.2.1.2.1, if_neg tft, tR_isGoal hg, b1_s, if_neg (show ¬ (1 : Int32) = 0 by decide), h.2.2.1.2.2.2.2, if_pos (show zOpt none = -1 from rfl), e2, b2_s]
    have ebe : f_Rows_canBe N S (nI n) (mJ m 0 7) m = some (tf (rOk M d n)) := by
      rw [h.2.1.2.2.2.1]
      exact tC_canBe h.1.1 hN h.2.1.2.1 h.1.2.1.1 hd hn
    cases hr : rOk M d n with
    | false =>
      have eC : f_SC_known N S (nI g) (nI n) m = some (-2147483648, m, S) := by
        unfold f_SC_known
        rw [e0, b1_s, if_neg (show ¬ (1 : Int32) = 0 by decide), ebe, hr, b1_s, if_pos tf_f]
      rw [hr, if_pos tf_f] at eR0
      exact StQ_mk (n := 0) h (by omega) eC eR0 ⟨hC, FrC.refl, Pay.refl⟩ p2.pq hR1
    | true =>
      rw [hr, if_neg tft] at eR0
      obtain ⟨mr2, o, k1, k2, k3, k4⟩ := tR_knownBy h.1.1 hE hN hg (p2.pq.rw h.2.2.1.1) hR1 (p2.pq.rn h.2.2.1.2.2) h.1.2 hr (d2 hr)
      rw [KN_eq h.1.1 hE h.1.2 hr k2] at k1
      rw [k1, b2_s] at eR0
      obtain ⟨m1, S1, b1', b2', b3', _⟩ := t_bookEnds (N := N) (b := qB M) h.1.1 hE hN hg (by omega) hC
      obtain ⟨m2, g1, g2, g3, g4⟩ := tC_greatest (N := N) h.1.1 hE (by omega) hg h.1.2 hr b2'.1.2.1 b3'
      have hB3 : mI m 10 3 = nI (qB M) := h.2.1.2.1.2.2.2.1
      have hq : Rq1 M S m S1 m2 (qB M + 1) := (show Rq1 M S m S1 m1 (qB M + 1) from ⟨b2'.1, b2'.2.1, b2'.2.2.1⟩).gd g2
      have hmE : 33 + 3 * (3 * g + qB M) ∈ eKl := eE_mem g hg (qB M) (by omega)
      have eC : f_SC_known N S (nI g) (nI n) m = some (iz (kvr M g n d c), m2, S1) := by
        unfold f_SC_known
        rw [e0, b1_s, if_neg (show ¬ (1 : Int32) = 0 by decide), ebe, hr, b1_s, if_neg tft, hB3, b1']
        show ckc (ShC S1) (ck _ _) = _
        rw [ckc_t b2'.1.1, ck_t hmE, h.2.1.2.2.2.1, g1, b2_s, lz_i]
        rfl
      exact StQ_mk h (by omega) eC eR0 hq (p2.pq.trans k4) k3
end KNOWNST
