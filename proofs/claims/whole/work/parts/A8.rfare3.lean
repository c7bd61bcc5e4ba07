/-! FARE: the reference's lists, laid and summed. -/
/-- only the ways' rows have changed -/
def PW (m m' : Mm) : Prop := m'.1 = m.1 ∧ m'.2.1 = m.2.1 ∧ m'.2.2.1 = m.2.2.1 ∧ ∀ a, a ≠ 22 → a ≠ 23 → a ≠ 24 → a ≠ 25 → m'.2.2.2 a = m.2.2.2 a
theorem PW.refl {m : Mm} : PW m m := ⟨rfl, rfl, rfl, fun _ _ _ _ _ => rfl⟩
theorem PW.trans {m m1 m2 : Mm} (h : PW m m1) (h' : PW m1 m2) : PW m m2 := ⟨h'.1.trans h.1, h'.2.1.trans h.2.1, h'.2.2.1.trans h.2.2.1, fun a q1 q2 q3 q4 => (h'.2.2.2 a q1 q2 q3 q4).trans (h.2.2.2 a q1 q2 q3 q4)⟩
theorem PW_v {m : Mm} {a k : Nat} {v : Int64} (h : a = 22 ∨ a = 23 ∨ a = 24 ∨ a = 25) : PW m (vY m a k v) := ⟨rfl, rfl, rfl, fun b _ _ _ _ => vY_o (by omega)⟩
theorem PW.pq {m m' : Mm} (h : PW m m') : PQ m m' := ⟨fun a k _ => by rw [h.1], fun a k _ => by rw [h.2.1], fun a _ _ _ _ _ => by rw [h.2.2.1], fun a _ _ _ q1 q2 q3 q4 => h.2.2.2 a q1 q2 q3 q4⟩
theorem PW.rw {m m' : Mm} {M : Mt} (h : PW m m') (hw : RW m M) : RW m' M := RW_of (fun k _ => by rw [h.1]) (fun a _ => by rw [h.2.2.1]) hw
theorem RE_PW {M : Mt} {m m' : Mm} (hp : PW m m') (h : RE m M) : RE m' M := by
  have e2 : ∀ j, mYy m' 14 j = mYy m 14 j := fun j => by unfold mYy; rw [hp.2.2.2 14 (by omega) (by omega) (by omega) (by omega)]
  have e1 : mI m' 0 33 = mI m 0 33 := by unfold mI; rw [hp.1]
  have e3 : ∀ j, mX m' 15 j = mX m 15 j := fun j => by unfold mX; rw [hp.2.2.1]
  unfold RE at *
  simp only [e1, e2, e3]
  exact h
/-- what is solved for way 4 -/
def W4 (M : Mt) (way d : Nat) (m : Mm) (c : Nat) : Prop := way = 4 → ∃ G A, LA M (qO M) d (qD M - d) m G A ∧ (∀ i', i' ≤ qD M - d → WV m G i' (vS M false (qO M) 0 (qB M) (qD M - d - i'))) ∧ InG G 0 c
theorem W4.pw {M : Mt} {way d c : Nat} {m m' : Mm} (h : W4 M way d m c) (hp : PW m m') : W4 M way d m' c := fun q => by
  obtain ⟨G, A, h1, h2, h3⟩ := h q
  refine ⟨G, A, LA_m (by rw [hp.1]) (by rw [hp.1]) (by rw [hp.2.2.1]) (by rw [hp.2.2.1]) (hp.2.2.2 17 (by omega) (by omega) (by omega) (by omega)) h1, fun i' hi' k hk hl => ?_, h3⟩
  have : mYy m' 18 k = mYy m 18 k := by unfold mYy; rw [hp.2.2.2 18 (by omega) (by omega) (by omega) (by omega)]
  rw [this]
  exact h2 i' hi' k hk hl
section RFARE3
variable {N : Nat} {M : Mt}
theorem sK_in (hM : qOk M) (hE : qE M) {way c d : Nat} {m : Mm} {G : Gh} {A : Nat → Nat} (hc : Ds M (qO M) d c) (hA : LA M (qO M) d (qD M - d) m G A) (h0 : InG G 0 c) : ∀ j i, d + j ≤ qD M → i < nK M d j → InG G j (sK M way c d j i)
  | 0, _, _, _ => h0
  | j + 1, i, h, hi => by
    have hAq := hM.2.2.2.2.2.2.1 (d + j) (by omega)
    have hq : i / qA M (d + j) < nK M d j := Nat.div_lt_of_lt_mul (by rw [Nat.mul_comm]; exact hi)
    have hmo : i % qA M (d + j) < qA M (d + j) := Nat.mod_lt _ (by omega)
    have ih := sK_in hM hE (way := way) hc hA h0 j (i / qA M (d + j)) (by omega) hq
    have ids := sK_ds hM hE (way := way) hc j (i / qA M (d + j)) (by omega) hq
    exact hA.2.2.2.2.2 j _ _ _ (by omega) ih hmo (nxW_suc hM hE ids.1)
/-- the next state of a place in the list -/
theorem tR_nx (hM : qOk M) (hE : qE M) (hN : 1000000 ≤ N) {m : Mm} {way c d j i a : Nat} (hway : way ≤ 4) (hX : CxR M d m) (hc : Ds M (qO M) d c) (h4 : W4 M way d m c) (hj : d + j < qD M) (hi : i < nK M d j) (ha : a < qA M (d + j)) (J : Int64 → Option (Int32 × Mm)) : (if nI (qK M (d + j) a) = 1 then J (rz (sK M way c d j i) ||| lsl 1 (36 + qT M (d + j) a)) else (if nI (qK M (d + j) a) = 2 then J (rz (sK M way c d j i)) else (if nI way = 4 then b1 (f_Mo_given N (rz (sK M way c d j i)) (nI j) (nI a) (mI m 0 21) m) J else b1 (f_Mo_goesTo N (rz (sK M way c d j i)) (qT M (d + j) a) (nI way) (nI j) m) fun r25 => b1 (f_Mo_one N r25 (qT M (d + j) a)) fun r26 => J (rz (sK M way c d j i) + r26)))) = J (rz (nxW M way (qD M - (d + j + 1)) (sK M way c d j i) (d + j) a)) := by
  have hD := hM.2.1
  have hO := hM.2.2.1
  have hH := hM.1
  have hq := hM.2.2.2.2.2.2.2 _ a hj ha
  have hds := sK_ds hM hE (way := way) hc j i (by omega) hi
  generalize hs : sK M way c d j i = s at *
  unfold nxW
  by_cases k0 : qK M (d + j) a = 0
  · have hs3 := hq.2.2.1 k0
    have hg := gft_may hM hE (way := way) (n := qD M - (d + j + 1)) (s := qG M (d + j) a) hds.1
    have eqT : qT M (d + j) a = nI (qG M (d + j) a) := by unfold qT; rw [if_neg (by omega)]
    rw [if_neg (fun w => by have := (nI_k1 hq.2.1).mp w; omega), if_neg (show ¬ nI (qK M (d + j) a) = 2 from fun w => by have := (nI_eq (b := 2) (by omega) (by omega)).mp w; omega), if_pos k0, eqT]
    by_cases w4 : way = 4
    · obtain ⟨G, A, hA, hF, h0⟩ := h4 w4
      have hin := sK_in hM hE (way := way) hc hA h0 j i (by omega) hi
      rw [hs] at hin
      have hF1 : WV m G (j + 1) (vS M false (qO M) 0 (qB M) (qD M - (d + j + 1))) := by
        have := hF (j + 1) (by omega)
        rw [show qD M - d - (j + 1) = qD M - (d + j + 1) by omega] at this
        exact this
      obtain ⟨b, g1, g2⟩ := tR_given hM hE hN (show qO M ≤ 3 by omega) (show d + (qD M - d) = qD M by omega) hA hX (show j < qD M - d by omega) hin hds ha k0 hF1 (fun c' h => vS_sm hM hE (by omega) (by rw [show qD M - (qD M - (d + j + 1)) = d + (j + 1) by omega]; exact h))
      have hb : gft M way (qD M - (d + j + 1)) s (qG M (d + j) a) = b := by
        unfold gft
        rw [if_pos w4, g1]
        rfl
      rw [if_pos (show nI way = 4 by rw [w4]; rfl), hX.1.2.2.1, g2, b1_s, hb]
    · have hb : gft M way (qD M - (d + j + 1)) s (qG M (d + j) a) = gwy M way s (qG M (d + j) a) := by
        unfold gft
        rw [if_neg w4]
      rw [if_neg (show ¬ nI way = 4 from fun w => w4 ((nI_eq (b := 4) (by omega) (by omega)).mp w)), tR_goes hM hE hX.1 hN (by omega) hds.1 hs3, b1_s, ← hb, t_Mone hs3 hg.1, b1_s, rz_give hds (Or.inl (by omega)) hs3 hg.1]
  · rw [if_neg k0]
    by_cases k1 : qK M (d + j) a = 1
    · have hgq := hq.2.2.2 k1
      have er : rz s ||| lsl 1 (36 + qT M (d + j) a) = rz (pas M s (d + j) a) := by
        unfold qT pas
        rw [if_neg (by omega), if_pos k1, show (36 : Int32) + nI (qG M (d + j) a) = nI (36 + qG M (d + j) a) from by rw [show (36 : Int32) = nI 36 from rfl, nI_add], show (1 : Int64) = lN 1 from rfl, lsl_n 1 (by omega), Nat.one_mul, rz_or (by omega)]
      rw [if_pos ((nI_k1 hq.2.1).mpr k1), er]
    · have k2 : qK M (d + j) a = 2 := by omega
      have ep : pas M s (d + j) a = s := by unfold pas; rw [if_neg k1]
      rw [if_neg (fun w => k1 ((nI_k1 hq.2.1).mp w)), if_pos (show nI (qK M (d + j) a) = 2 by rw [k2]; rfl), ep]
end RFARE3
