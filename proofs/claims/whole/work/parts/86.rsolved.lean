/-! THE REFERENCE: solved. -/
def PS (m m' : Mm) : Prop := (∀ a k, ¬ (a = 0 ∧ (k = 33 ∨ k = 39 ∨ k = 40)) → m'.1 a k = m.1 a k) ∧ m'.2.1 = m.2.1 ∧ (∀ a, a ≠ 15 → a ≠ 16 → a ≠ 19 → a ≠ 20 → m'.2.2.1 a = m.2.2.1 a) ∧ ∀ a, a ≠ 14 → a ≠ 17 → a ≠ 18 → m'.2.2.2 a = m.2.2.2 a
theorem PS.refl {m : Mm} : PS m m := ⟨fun _ _ _ => rfl, rfl, fun _ _ _ _ _ => rfl, fun _ _ _ _ => rfl⟩
theorem PS.trans {m m1 m2 : Mm} (h : PS m m1) (h' : PS m1 m2) : PS m m2 := ⟨fun a k q => (h'.1 a k q).trans (h.1 a k q), h'.2.1.trans h.2.1, fun a q1 q2 q3 q4 => (h'.2.2.1 a q1 q2 q3 q4).trans (h.2.2.1 a q1 q2 q3 q4), fun a q1 q2 q3 => (h'.2.2.2 a q1 q2 q3).trans (h.2.2.2 a q1 q2 q3)⟩
theorem GE.ps {m m' : Mm} (h : GE m m') : PS m m' := ⟨fun a k q => h.1 a k (by omega), h.2.1, fun a q1 q2 _ _ => h.2.2.1 a q1 q2, fun a q1 _ _ => h.2.2.2 a q1⟩
theorem PL.ps {m m' : Mm} (h : PL m m') : PS m m' := ⟨fun a k q => h.1 a k (by omega), h.2.1, fun a _ _ q1 q2 => h.2.2.1 a q1 q2, fun a _ q1 q2 => h.2.2.2 a q1 q2⟩
theorem PS_18 {m : Mm} {k : Nat} {v : Int64} : PS m (vY m 18 k v) := ⟨fun _ _ _ => rfl, rfl, fun _ _ _ _ _ => rfl, fun a _ _ q => vY_o q⟩
theorem PS.cxr {M : Mt} {ov : Nat} {m m' : Mm} (h : PS m m') (hc : CxR M ov m) : CxR M ov m' := ⟨RW_of (fun k hk => h.1 0 k (by omega)) (fun a ha => h.2.2.1 a (by omega) (by omega) (by omega) (by omega)) hc.1, (h.1 0 24 (by omega)).trans hc.2⟩
theorem LA_18 {M : Mt} {ho ov ls : Nat} {m : Mm} {G : Gh} {A : Nat → Nat} {k : Nat} {v : Int64} (h : LA M ho ov ls m G A) : LA M ho ov ls (vY m 18 k v) G A := LA_m rfl rfl rfl rfl (vY_o (by omega)) h
theorem LA_GE {M : Mt} {ho ov ls : Nat} {m m' : Mm} {G : Gh} {A : Nat → Nat} (hg : GE m m') (h : LA M ho ov ls m G A) : LA M ho ov ls m' G A := LA_m (hg.1 0 40 (by omega)) (hg.1 0 39 (by omega)) (hg.2.2.1 20 (by omega) (by omega)) (hg.2.2.1 19 (by omega) (by omega)) (hg.2.2.2 17 (by omega)) h
theorem RE_18 {M : Mt} {m : Mm} {k : Nat} {v : Int64} (h : RE m M) : RE (vY m 18 k v) M := by
  have e2 : ∀ j, mYy (vY m 18 k v) 14 j = mYy m 14 j := fun j => by unfold mYy; rw [vY_o (by omega)]
  have e1 : mI (vY m 18 k v) 0 33 = mI m 0 33 := rfl
  have e3 : ∀ j, mX (vY m 18 k v) 15 j = mX m 15 j := fun j => rfl
  unfold RE at *
  simp only [e1, e2, e3]
  exact h
theorem RE_PL {M : Mt} {m m' : Mm} (hp : PL m m') (h : RE m M) : RE m' M := by
  have e1 : mI m' 0 33 = mI m 0 33 := hp.1 0 33 (by omega)
  have e2 : ∀ j, mYy m' 14 j = mYy m 14 j := fun j => by unfold mYy; rw [hp.2.2.2 14 (by omega) (by omega)]
  have e3 : ∀ j, mX m' 15 j = mX m 15 j := fun j => by unfold mX; rw [hp.2.2.1 15 (by omega) (by omega)]
  unfold RE at *
  simp only [e1, e2, e3]
  exact h
theorem w18 {m : Mm} {k : Nat} {v : Int64} {t : Nat} : mYy (vY m 18 k v) 18 t = if t = k then v else mYy m 18 t := u2_eq _ _ _ _ _
section RSOLVED
variable {N : Nat} {M : Mt} {ho ov ls : Nat} {G : Gh} {A : Nat → Nat}
theorem LA_ds {m : Mm} (hA : LA M ho ov ls m G A) {i c : Nat} (hc : InG G i c) : Ds M ho (ov + i) c := by
  obtain ⟨k, h1, h2, h3⟩ := hc
  have := (hA.1.2.1 k h1).2.1
  rw [h2, h3] at this
  exact this
theorem LA_in {m : Mm} (hA : LA M ho ov ls m G A) {i k : Nat} (hi : i ≤ ls) (h1 : A i ≤ k) (h2 : k < A (i + 1)) : k < G.1 ∧ G.2.2 k = i := by
  have hk : k < G.1 := by
    by_cases q : i = ls
    · subst q
      rw [hA.2.1] at h2
      exact h2
    · have := (hA.1.2.2.2 i (by omega)).2
      have := hA.2.1
      omega
  exact ⟨hk, ((hA.1.2.1 k hk).2.2.1 i (by omega)).mpr ⟨h1, h2⟩⟩
theorem LA_in' {m : Mm} (hA : LA M ho ov ls m G A) {i k : Nat} (hi : i ≤ ls) (hk : k < G.1) (hl : G.2.2 k = i) : A i ≤ k ∧ k < A (i + 1) := ((hA.1.2.1 k hk).2.2.1 i (by omega)).mp hl
theorem LA_mono {m : Mm} (hA : LA M ho ov ls m G A) {i : Nat} (hi : i ≤ ls) : A i ≤ A (i + 1) ∧ A (i + 1) ≤ 160000 := by
  have h1 := (hA.1.2.2.2 i (by omega))
  have h2 := hA.2.1
  have h3 := hA.1.1.1
  omega
theorem tR_sol16 (hM : qOk M) (hE : qE M) (hN : 1000000 ≤ N) (h3 : ho ≤ 3) (hls : ov + ls = qD M) {m : Mm} {g b : Nat} (hg : g < 3) (hb : b < 3) {x2 x3 : Int32} (hA : LA M ho ov ls m G A) (hX : CxR M ov m) (hR : RE m M) (K : Int32 → Mm → Option (Int64 × Mm)) : ∃ m', f_Mo_solved_L16 N (nI g) x2 x3 (nI b) K N (nI (A ls)) m = K (nI (A (ls + 1))) m' ∧ LA M ho ov ls m' G A ∧ WV m' G ls (gE M g b) ∧ RE m' M ∧ PS m m' := by
  have hD := hM.2.1
  have hmo := LA_mono hA (Nat.le_refl ls)
  obtain ⟨m', ⟨b0, b1, b2, b3, b4⟩, e⟩ := loopE (fun n (x : Mm) k => f_Mo_solved_L16 N (nI g) x2 x3 (nI b) K n (nI k) x) (fun x k => A ls ≤ k ∧ LA M ho ov ls x G A ∧ (∀ t, A ls ≤ t → t < k → mYy x 18 t = lz (gE M g b (G.2.1 t))) ∧ RE x M ∧ PS m x) (A (ls + 1)) (fun x => K (nI (A (ls + 1))) x) (fun n x k hk hI => by
    show ∃ x', _ ∧ f_Mo_solved_L16 N (nI g) x2 x3 (nI b) K (n + 1) (nI k) x = _
    obtain ⟨b0, b1, b2, b3, b4⟩ := hI
    obtain ⟨hkG, hly⟩ := LA_in b1 (Nat.le_refl ls) b0 hk
    have hX' := b4.cxr hX
    have hDs : Ds M ho (ov + ls) (G.2.1 k) := LA_ds b1 ⟨k, hkG, hly, rfl⟩
    obtain ⟨m1, e1, e2, e3⟩ := tR_ends hM hE hX'.1 b3 hN hDs.1 (by have := hDs.2.2; omega) hg hb
    have hy : mYy x 17 k = rz (G.2.1 k) := (b1.1.1.2.2.1 k hkG).1
    refine ⟨vY m1 18 k (lz (gE M g b (G.2.1 k))), ⟨by omega, LA_18 (LA_GE e2 b1), fun t h1 h2 => ?_, RE_18 e3, (b4.trans e2.ps).trans PS_18⟩, ?_⟩
    · rw [w18]
      by_cases q : t = k
      · rw [if_pos q, q]
      · rw [if_neg q]
        have : mYy m1 18 t = mYy x 18 t := by unfold mYy; rw [e2.2.2.2 18 (by omega)]
        rw [this]
        exact b2 t h1 (by omega)
    · rw [f_Mo_solved_L16, b1.2.2.2.1, nI_1, ck_t (nI_in (show ls + 1 < 9 by omega) (by omega)), nI_clamp (show ls + 1 < 2 ^ 31 by omega), b1.2.2.1 (ls + 1) (Nat.le_refl _), if_neg (nI_ge hk (by omega))]
      have hix : ix (nI k) 160000 := nI_in (by omega) (by omega)
      simp only [ck_t hix, nI_clamp (show k < 2 ^ 31 by omega)]
      rw [hy, e1, b2_s, nI_1, iz_64 (sm3_s (gE_b hM hE hDs.1))]) (fun n x hI => by
    show f_Mo_solved_L16 N (nI g) x2 x3 (nI b) K (n + 1) (nI (A (ls + 1))) x = _
    rw [f_Mo_solved_L16, hI.2.1.2.2.2.1, nI_1, ck_t (nI_in (show ls + 1 < 9 by omega) (by omega)), nI_clamp (show ls + 1 < 2 ^ 31 by omega), hI.2.1.2.2.1 (ls + 1) (Nat.le_refl _), if_pos (nI_le (Nat.le_refl _) (by omega))]) (A (ls + 1) - A ls) N m (A ls) (by omega) (by omega) ⟨Nat.le_refl _, hA, fun t h1 h2 => by omega, hR, PS.refl⟩
  exact ⟨m', e, b1, fun k hk hl => by
    have := LA_in' b1 (Nat.le_refl ls) hk hl
    exact b2 k this.1 this.2, b3, b4⟩
def zN (f : Nat → Int) (j : Nat) : Int64 := if j = 0 then 0 else lz (minA j f)
theorem tR_sol102 (hM : qOk M) (hE : qE M) (hN : 1000000 ≤ N) (h3 : ho ≤ 3) (hls : ov + ls = qD M) {m : Mm} {mean : Bool} {g b : Nat} (hA : LA M ho ov ls m G A) (hX : CxR M ov m) {i k : Nat} (hi : i < ls) (hk : k < G.1) (hl : G.2.2 k = i) (hF : WV m G (i + 1) (vS M mean ho g b (ls - (i + 1)))) (K : Int64 → Int32 → Option (Int64 × Mm)) : f_Mo_solved_L102 N (tf mean) (nI ho) (nI i) (nI k) m K N 0 0 = K (lz (vS M mean ho g b (ls - i) (G.2.1 k))) (nI (qA M (ov + i))) := by
  have hD := hM.2.1
  have hd : ov + i < qD M := by omega
  have hAq := hM.2.2.2.2.2.2.1 _ hd
  have hkn : k < 160000 := Nat.lt_of_lt_of_le hk hA.1.1.1
  have hy : mYy m 17 k = rz (G.2.1 k) := (hA.1.1.2.2.1 k hk).1
  have hin : InG G i (G.2.1 k) := ⟨k, hk, hl, rfl⟩
  have hDs := LA_ds hA hin
  generalize G.2.1 k = c at *
  have hsm : ∀ c', Ds M ho (ov + (i + 1)) c' → sm6 (vS M mean ho g b (ls - (i + 1)) c') := fun c' h => vS_sm hM hE (by omega) (by rw [show qD M - (ls - (i + 1)) = ov + (i + 1) by omega]; exact h)
  have hbef : ∀ a, a < qA M (ov + i) → f_Mo_after N (rz c) (nI i) (nI a) (nI ho) m = some (lz (aft M ho (vS M mean ho g b (ls - (i + 1))) c (ov + i) a)) := fun a ha => tR_after hM hE hN h3 hls hA hX hi hin hDs ha hF hsm
  have hasm : ∀ a, a < qA M (ov + i) → sm6 (aft M ho (vS M mean ho g b (ls - (i + 1))) c (ov + i) a) := fun a ha => by
    have := aft_sm hM hE (mean := mean) (ho := ho) (g := g) (b := b) (n := ls - (i + 1)) (c := c) (a := a) (by omega) (by rw [show qD M - (ls - (i + 1) + 1) = ov + i by omega]; exact hDs) (by rw [show qD M - (ls - (i + 1) + 1) = ov + i by omega]; exact ha)
    rw [show qD M - (ls - (i + 1) + 1) = ov + i by omega] at this
    exact this
  have hvs : vS M mean ho g b (ls - i) c = if mean then sumA (qA M (ov + i)) (fun a => (qC M (ov + i) a : Int) * aft M ho (vS M mean ho g b (ls - (i + 1))) c (ov + i) a) else minA (qA M (ov + i)) (fun a => aft M ho (vS M mean ho g b (ls - (i + 1))) c (ov + i) a) := by
    rw [show ls - i = (ls - (i + 1)) + 1 by omega, vS, show qD M - (ls - (i + 1) + 1) = ov + i by omega]
  rw [hvs]
  cases mean with
  | false =>
    obtain ⟨_, _, e⟩ := loopE (fun n (_ : Unit) a => f_Mo_solved_L102 N (tf false) (nI ho) (nI i) (nI k) m K n (zN (fun a => aft M ho (vS M false ho g b (ls - (i + 1))) c (ov + i) a) a) (nI a)) (fun _ _ => True) (qA M (ov + i)) (fun _ => K (zN (fun a => aft M ho (vS M false ho g b (ls - (i + 1))) c (ov + i) a) (qA M (ov + i))) (nI (qA M (ov + i)))) (fun n _ a ha _ => by
      show ∃ x', _ ∧ f_Mo_solved_L102 N (tf false) (nI ho) (nI i) (nI k) m K (n + 1) _ (nI a) = _
      refine ⟨(), trivial, ?_⟩
      rw [f_Mo_solved_L102, hX.2, nI_add, ck_t (nI_in (show ov + i < 6 by omega) (by omega)), nI_clamp (show ov + i < 2 ^ 31 by omega), hX.1.2.2.2.2.2.1 _ hd, if_neg (nI_ge ha (by omega)), ck_t (nI_in hkn (by omega)), nI_clamp (show k < 2 ^ 31 by omega), hy, hbef a ha, b1_s, if_pos tf_f, nI_1]
      unfold zN
      rw [if_neg (show ¬ a + 1 = 0 by omega)]
      by_cases a0 : a = 0
      · subst a0
        rw [if_pos (show nI 0 = 0 from rfl), minA_1]
      · rw [if_neg (nI_ne0 (by omega) (by omega)), if_neg a0, minA_s]
        have hm : sm6 (minA a (fun a => aft M ho (vS M false ho g b (ls - (i + 1))) c (ov + i) a)) := minA_P (by omega) (fun j hj => hasm j (by omega))
        by_cases q : aft M ho (vS M false ho g b (ls - (i + 1))) c (ov + i) a < minA a (fun a => aft M ho (vS M false ho g b (ls - (i + 1))) c (ov + i) a)
        · rw [if_pos q, if_neg (fun w => by have := (lz_le hm (hasm a ha)).mp w; omega)]
        · rw [if_neg q, if_pos ((lz_le hm (hasm a ha)).mpr (by omega))]) (fun n _ _ => by
      show f_Mo_solved_L102 N (tf false) (nI ho) (nI i) (nI k) m K (n + 1) _ (nI (qA M (ov + i))) = _
      rw [f_Mo_solved_L102, hX.2, nI_add, ck_t (nI_in (show ov + i < 6 by omega) (by omega)), nI_clamp (show ov + i < 2 ^ 31 by omega), hX.1.2.2.2.2.2.1 _ hd, if_pos (nI_le (Nat.le_refl _) (by omega))]) (qA M (ov + i)) N () 0 (by omega) (by omega) trivial
    have ez : zN (fun a => aft M ho (vS M false ho g b (ls - (i + 1))) c (ov + i) a) (qA M (ov + i)) = lz (minA (qA M (ov + i)) (fun a => aft M ho (vS M false ho g b (ls - (i + 1))) c (ov + i) a)) := by
      unfold zN
      rw [if_neg (by omega)]
    rw [ez] at e
    exact e
  | true =>
    obtain ⟨_, _, e⟩ := loopE (fun n (_ : Unit) a => f_Mo_solved_L102 N (tf true) (nI ho) (nI i) (nI k) m K n (lz (sumA a (fun a => (qC M (ov + i) a : Int) * aft M ho (vS M true ho g b (ls - (i + 1))) c (ov + i) a))) (nI a)) (fun _ _ => True) (qA M (ov + i)) (fun _ => K (lz (sumA (qA M (ov + i)) (fun a => (qC M (ov + i) a : Int) * aft M ho (vS M true ho g b (ls - (i + 1))) c (ov + i) a))) (nI (qA M (ov + i)))) (fun n _ a ha _ => by
      show ∃ x', _ ∧ f_Mo_solved_L102 N (tf true) (nI ho) (nI i) (nI k) m K (n + 1) _ (nI a) = _
      refine ⟨(), trivial, ?_⟩
      have hC := (hM.2.2.2.2.2.2.2 _ a hd ha).1
      rw [f_Mo_solved_L102, hX.2, nI_add, ck_t (nI_in (show ov + i < 6 by omega) (by omega)), nI_clamp (show ov + i < 2 ^ 31 by omega), hX.1.2.2.2.2.2.1 _ hd, if_neg (nI_ge ha (by omega)), ck_t (nI_in hkn (by omega)), nI_clamp (show k < 2 ^ 31 by omega), hy, hbef a ha, b1_s, if_neg (by rw [tf_t]; decide), nI_1, tR_alt0 hM hX.1 hd ha, b1_s, nI_lz (by omega), lz_mul, lz_add, sumA_s, Int.mul_comm]) (fun n _ _ => by
      show f_Mo_solved_L102 N (tf true) (nI ho) (nI i) (nI k) m K (n + 1) _ (nI (qA M (ov + i))) = _
      rw [f_Mo_solved_L102, hX.2, nI_add, ck_t (nI_in (show ov + i < 6 by omega) (by omega)), nI_clamp (show ov + i < 2 ^ 31 by omega), hX.1.2.2.2.2.2.1 _ hd, if_pos (nI_le (Nat.le_refl _) (by omega))]) (qA M (ov + i)) N () 0 (by omega) (by omega) trivial
    exact e
theorem tR_sol82 (hM : qOk M) (hE : qE M) (hN : 1000000 ≤ N) (h3 : ho ≤ 3) (hls : ov + ls = qD M) {m : Mm} {mean : Bool} {g b : Nat} (hA : LA M ho ov ls m G A) (hX : CxR M ov m) (hR : RE m M) {i : Nat} (hi : i < ls) (hF : ∀ i', i < i' → i' ≤ ls → WV m G i' (vS M mean ho g b (ls - i'))) (K : Int32 → Mm → Option (Int64 × Mm)) : ∃ m', f_Mo_solved_L82 N (tf mean) (nI ho) (nI i) K N (nI (A i)) m = K (nI (A (i + 1))) m' ∧ LA M ho ov ls m' G A ∧ (∀ i', i ≤ i' → i' ≤ ls → WV m' G i' (vS M mean ho g b (ls - i'))) ∧ RE m' M ∧ PS m m' := by
  have hD := hM.2.1
  have hmo := LA_mono hA (show i ≤ ls by omega)
  obtain ⟨m', ⟨b0, b1, b2, b3, b4, b5⟩, e⟩ := loopE (fun n (x : Mm) k => f_Mo_solved_L82 N (tf mean) (nI ho) (nI i) K n (nI k) x) (fun x k => A i ≤ k ∧ LA M ho ov ls x G A ∧ (∀ t, A i ≤ t → t < k → mYy x 18 t = lz (vS M mean ho g b (ls - i) (G.2.1 t))) ∧ RE x M ∧ PS m x ∧ ∀ i', i < i' → i' ≤ ls → WV x G i' (vS M mean ho g b (ls - i'))) (A (i + 1)) (fun x => K (nI (A (i + 1))) x) (fun n x k hk hI => by
    show ∃ x', _ ∧ f_Mo_solved_L82 N (tf mean) (nI ho) (nI i) K (n + 1) (nI k) x = _
    obtain ⟨b0, b1, b2, b3, b4, b5⟩ := hI
    obtain ⟨hkG, hly⟩ := LA_in b1 (show i ≤ ls by omega) b0 hk
    have hX' := b4.cxr hX
    refine ⟨vY x 18 k (lz (vS M mean ho g b (ls - i) (G.2.1 k))), ⟨by omega, LA_18 b1, fun t h1 h2 => ?_, RE_18 b3, b4.trans PS_18, fun i' h1 h2 t ht htl => ?_⟩, ?_⟩
    · rw [w18]
      by_cases q : t = k
      · rw [if_pos q, q]
      · rw [if_neg q]
        exact b2 t h1 (by omega)
    · rw [w18, if_neg (fun q => by rw [q, hly] at htl; omega)]
      exact b5 i' h1 h2 t ht htl
    · rw [f_Mo_solved_L82, nI_1, ck_t (nI_in (show i + 1 < 9 by omega) (by omega)), nI_clamp (show i + 1 < 2 ^ 31 by omega), b1.2.2.1 (i + 1) (by omega), if_neg (nI_ge hk (by omega)), tR_sol102 hM hE hN h3 hls b1 hX' hi hkG hly (b5 (i + 1) (by omega) (by omega))]
      have hix : ix (nI k) 160000 := nI_in (by omega) (by omega)
      simp only [ck_t hix, nI_clamp (show k < 2 ^ 31 by omega)]
      rw [nI_1]) (fun n x hI => by
    show f_Mo_solved_L82 N (tf mean) (nI ho) (nI i) K (n + 1) (nI (A (i + 1))) x = _
    rw [f_Mo_solved_L82, nI_1, ck_t (nI_in (show i + 1 < 9 by omega) (by omega)), nI_clamp (show i + 1 < 2 ^ 31 by omega), hI.2.1.2.2.1 (i + 1) (by omega), if_pos (nI_le (Nat.le_refl _) (by omega))]) (A (i + 1) - A i) N m (A i) (by omega) (by omega) ⟨Nat.le_refl _, hA, fun t h1 h2 => by omega, hR, PS.refl, hF⟩
  refine ⟨m', e, b1, fun i' h1 h2 => ?_, b3, b4⟩
  by_cases q : i' = i
  · subst q
    intro k hk hl
    have := LA_in' b1 h2 hk hl
    exact b2 k this.1 this.2
  · exact b5 i' (by omega) h2
theorem tR_sol68 (hM : qOk M) (hE : qE M) (hN : 1000000 ≤ N) (h3 : ho ≤ 3) (hls : ov + ls = qD M) {mean : Bool} {g b : Nat} (K : Int32 → Mm → Option (Int64 × Mm)) : ∀ (n fuel : Nat) (m : Mm), n ≤ ls → n < fuel → LA M ho ov ls m G A → CxR M ov m → RE m M → (∀ i', n ≤ i' → i' ≤ ls → WV m G i' (vS M mean ho g b (ls - i'))) → ∃ m', f_Mo_solved_L68 N (tf mean) (nI ho) K fuel (nI n - 1) m = K (-1) m' ∧ LA M ho ov ls m' G A ∧ (∀ i', i' ≤ ls → WV m' G i' (vS M mean ho g b (ls - i'))) ∧ RE m' M ∧ PS m m' := by
  intro n
  have hD := hM.2.1
  induction n with
  | zero =>
    intro fuel m hn hf hA hX hR hF
    obtain ⟨f, rfl⟩ : ∃ q, fuel = q + 1 := ⟨fuel - 1, by omega⟩
    refine ⟨m, ?_, hA, fun i' h => hF i' (by omega) h, hR, PS.refl⟩
    rw [show nI 0 - 1 = -1 by decide, f_Mo_solved_L68, if_pos (by decide)]
  | succ n ih =>
    intro fuel m hn hf hA hX hR hF
    obtain ⟨f, rfl⟩ : ∃ q, fuel = q + 1 := ⟨fuel - 1, by omega⟩
    obtain ⟨m1, e1, c1, c2, c3, c4⟩ := tR_sol82 hM hE hN h3 hls hA hX hR (i := n) (by omega) (fun i' h1 h2 => hF i' (by omega) h2) (fun (z32_6 : Int32) (m32 : Mm) => f_Mo_solved_L68 N (tf mean) (nI ho) K f ((nI n + (-1))) m32)
    obtain ⟨m2, e2, d1, d2, d3, d4⟩ := ih f m1 (by omega) (by omega) c1 (c4.cxr hX) c3 (fun i' h1 h2 => c2 i' h1 h2)
    refine ⟨m2, ?_, d1, d2, d3, c4.trans d4⟩
    rw [f_Mo_solved_L68, nI_pred, if_neg (nI_pos (by omega)), ck_t (nI_in (show n < 9 by omega) (by omega)), nI_clamp (show n < 2 ^ 31 by omega), hA.2.2.1 n (by omega), e1, ← Int32.sub_eq_add_neg, e2]
/-- the greatest of the first layer -/
theorem tR_sol227 (hN : 1000000 ≤ N) {m : Mm} {ls2 : Nat} (hA : LA M ho ov ls m G A) (hne : 0 < A 1) {F : Nat → Int} (hF : WV m G 0 F) (hsm : ∀ k, k < A 1 → sm6 (F (G.2.1 k))) (hls2 : ls2 = ls) (K : Int64 → Int32 → Option (Int64 × Mm)) : ∃ x, isG (fun w => ∃ c, InG G 0 c ∧ w = F c) x ∧ f_Mo_solved_L227 N m K N (mYy m 18 0) 1 = K (lz x) (nI (A 1)) := by
  have hmo : A 0 ≤ A 1 ∧ A 1 ≤ 160000 := LA_mono hA (Nat.zero_le ls)
  have hA0 := hA.2.2.2.2.1
  have hval : ∀ k, k < A 1 → mYy m 18 k = lz (F (G.2.1 k)) := fun k hk => by
    have := LA_in hA (Nat.zero_le ls) (by rw [hA0]; exact Nat.zero_le k) hk
    exact hF k this.1 this.2
  obtain ⟨x, hx, e⟩ := loopE (fun n (x : Int) k => f_Mo_solved_L227 N m K n (lz x) (nI k)) (fun x k => 0 < k ∧ isG (fun w => ∃ t, t < k ∧ w = F (G.2.1 t)) x) (A 1) (fun x => K (lz x) (nI (A 1))) (fun n x k hk hI => by
    show ∃ x', _ ∧ f_Mo_solved_L227 N m K (n + 1) (lz x) (nI k) = _
    have hx6 : sm6 x := by
      obtain ⟨t, ht, e⟩ := hI.2.1
      rw [e]
      exact hsm t (by omega)
    have hix : ix (nI k) 160000 := nI_in (by omega) (by omega)
    have hi1 : ix (1 : Int32) 9 := nI_in (c := 1) (by omega) (by omega)
    have e19 : mX m 19 ((1 : Int32).toNatClampNeg) = nI (A 1) := hA.2.2.1 1 (by omega)
    refine ⟨if F (G.2.1 k) ≤ x then x else F (G.2.1 k), ⟨by omega, ?_⟩, ?_⟩
    · have := isG_or hI.2 (Q := fun w => w = F (G.2.1 k)) (y := F (G.2.1 k)) ⟨rfl, fun w hw => by have : w = F (G.2.1 k) := hw; omega⟩
      have e2 : (if F (G.2.1 k) ≤ x then x else F (G.2.1 k)) = (if F (G.2.1 k) < x then x else F (G.2.1 k)) := by
        split <;> split <;> omega
      rw [e2]
      refine isG_c (fun w => ⟨fun hw => ?_, fun hw => ?_⟩) this
      · rcases hw with ⟨t, ht, hw⟩ | hw
        · exact ⟨t, by omega, hw⟩
        · exact ⟨k, by omega, hw⟩
      · obtain ⟨t, ht, hw⟩ := hw
        by_cases q : t = k
        · rw [q] at hw; exact Or.inr hw
        · exact Or.inl ⟨t, by omega, hw⟩
    · rw [f_Mo_solved_L227]
      simp only [ck_t hi1, ck_t hix, e19, nI_clamp (show k < 2 ^ 31 by omega)]
      rw [if_neg (nI_ge hk (by omega)), hval k hk, nI_1]
      by_cases q : F (G.2.1 k) ≤ x
      · rw [if_pos q, if_pos ((lz_le (hsm k hk) hx6).mpr q)]
      · rw [if_neg q, if_neg (fun w => q ((lz_le (hsm k hk) hx6).mp w))]) (fun n x hI => by
    show f_Mo_solved_L227 N m K (n + 1) (lz x) (nI (A 1)) = _
    have hi1 : ix (1 : Int32) 9 := nI_in (c := 1) (by omega) (by omega)
    have e19 : mX m 19 ((1 : Int32).toNatClampNeg) = nI (A 1) := hA.2.2.1 1 (by omega)
    rw [f_Mo_solved_L227]
    simp only [ck_t hi1, e19]
    rw [if_pos (nI_le (Nat.le_refl _) (by omega))]) (A 1 - 1) N (F (G.2.1 0)) 1 (by omega) (by omega) ⟨by omega, ⟨0, by omega, rfl⟩, fun w hw0 => by
      obtain ⟨t, ht, e⟩ := hw0
      rw [e, show t = 0 by omega]; exact Int.le_refl _⟩
  refine ⟨x, isG_c (fun w => ⟨fun hw1 => ?_, fun hw1 => ?_⟩) hx.2, ?_⟩
  · obtain ⟨t, ht, hw⟩ := hw1
    have := LA_in hA (Nat.zero_le ls) (by rw [hA0]; exact Nat.zero_le t) ht
    exact ⟨G.2.1 t, ⟨t, this.1, this.2, rfl⟩, hw⟩
  · obtain ⟨c, ⟨k, h1, h2, h4⟩, hw⟩ := hw1
    have := LA_in' hA (Nat.zero_le ls) h1 h2
    exact ⟨k, this.2, by rw [h4]; exact hw⟩
  · rw [hval 0 hne]
    exact e
/-- what is sought from NOW -/
noncomputable def vNow (M : Mt) (mean : Bool) (ho g b ls c : Nat) (w : Option Nat) : Int := match w with
  | none => vS M mean ho g b ls c
  | some s => (gif M ho (vS M mean ho g b ls) c s).getD 0
theorem tR_solved (hM : qOk M) (hE : qE M) (hN : 1000000 ≤ N) (h3 : ho ≤ 3) {m : Mm} {c : Nat} {w : Option Nat} {mean : Bool} {g b : Nat} (hg : g < 3) (hb : b < 3) (hd : ov ≤ qD M) (hL : Lg M c) (ht : tt c ≤ ov) (hh : hl c ≤ ho) (hw : ∀ s, w = some s → s < 3 ∧ tt c < ov) (hnow : mJ m 0 23 = rz c) (hwt : mI m 0 25 = zOpt w) (hX : CxR M ov m) (hR : RE m M) : ∃ m' G A, f_Mo_solved N (nI g) (tf mean) (nI ho) (nI b) m = some (lz (vNow M mean ho g b (qD M - ov) c w), m') ∧ LA M ho ov (qD M - ov) m' G A ∧ (∀ i', i' ≤ qD M - ov → WV m' G i' (vS M mean ho g b (qD M - ov - i'))) ∧ RE m' M ∧ PS m m' ∧ ∀ c', InG G 0 c' ↔ St0 M ho c w c' := by
  have hD := hM.2.1
  obtain ⟨m1, G, A, e1, hA, hp, h0⟩ := tR_laysAll hM hE hN h3 hd hL ht hh hw hnow hwt hX
  have hls : ov + (qD M - ov) = qD M := by omega
  generalize hlsd : qD M - ov = ls at *
  have hX1 := hp.cxr hX
  have hmo := LA_mono hA (Nat.le_refl ls)
  have hmo0 : A 0 ≤ A 1 ∧ A 1 ≤ 160000 := LA_mono hA (Nat.zero_le ls)
  have hA0 := hA.2.2.2.2.1
  have hex : ∃ c', St0 M ho c w c' := by
    cases w with
    | none => exact ⟨c, rfl⟩
    | some s =>
      obtain ⟨to, q1, q2, q3⟩ := Lg_one hE hM hL
      exact ⟨_, to, by omega, by unfold may; rw [if_neg (by omega)]; simp [q2, q3], rfl⟩
  have hne : 0 < A 1 := by
    obtain ⟨c', hc'⟩ := hex
    obtain ⟨k, h1, h2, _⟩ := (h0 c').mpr hc'
    have h9 : A 0 ≤ k ∧ k < A 1 := LA_in' hA (Nat.zero_le ls) h1 h2
    omega
  unfold f_Mo_solved
  rw [e1, b3_s, hA.2.2.2.1, ck_t (nI_in (show ls < 9 by omega) (by omega)), nI_clamp (show ls < 2 ^ 31 by omega), hA.2.2.1 ls (by omega)]
  obtain ⟨m2, e2, hA2, hF2, hR2, hP2⟩ := tR_sol16 (x2 := tf mean) (x3 := nI ho) hM hE hN h3 hls hg hb hA hX1 (RE_PL hp hR) (fun (z8_5 : Int32) (m8 : Mm) => f_Mo_solved_L68 N (tf mean) (nI ho) (fun (z55_5 : Int32) (m55 : Mm) => ck (ix (0 : Int32) 160000) (f_Mo_solved_L227 N m55 (fun (z62_5 : Int64) (z62_7 : Int32) => some (z62_5, m55)) N ((mYy m55 18 ((0 : Int32).toNatClampNeg))) 1)) N ((((mI m8 0 39)) - 1)) m8)
  rw [e2, hA2.2.2.2.1]
  obtain ⟨m3, e3, hA3, hF3, hR3, hP3⟩ := tR_sol68 (mean := mean) (g := g) (b := b) hM hE hN h3 hls (fun (z55_5 : Int32) (m55 : Mm) => ck (ix (0 : Int32) 160000) (f_Mo_solved_L227 N m55 (fun (z62_5 : Int64) (z62_7 : Int32) => some (z62_5, m55)) N ((mYy m55 18 ((0 : Int32).toNatClampNeg))) 1)) ls N m2 (Nat.le_refl _) (by omega) hA2 (hP2.cxr hX1) hR2 (fun i' h1 h2 => by
    have : i' = ls := by omega
    subst this
    rw [Nat.sub_self]
    exact hF2)
  rw [e3, ck_t (show ix (0 : Int32) 160000 from nI_in (c := 0) (by omega) (by omega))]
  have hsm0 : ∀ c', InG G 0 c' → sm6 (vS M mean ho g b (ls - 0) c') := fun c' hc' => by
    have hds := LA_ds hA3 hc'
    exact vS_sm hM hE (by omega) (by rw [show qD M - (ls - 0) = ov + 0 by omega]; exact hds)
  obtain ⟨x, hx, e4⟩ := tR_sol227 hN hA3 hne (hF3 0 (Nat.zero_le _)) (fun k hk => by
    have := LA_in hA3 (Nat.zero_le ls) (by rw [hA0]; exact Nat.zero_le k) hk
    exact hsm0 _ ⟨k, this.1, this.2, rfl⟩) rfl (fun (z62_5 : Int64) (z62_7 : Int32) => some (z62_5, m3))
  have e4' : f_Mo_solved_L227 N m3 (fun (z62_5 : Int64) (z62_7 : Int32) => some (z62_5, m3)) N ((mYy m3 18 ((0 : Int32).toNatClampNeg))) 1 = some (lz x, m3) := e4
  rw [e4']
  have ex : x = vNow M mean ho g b ls c w := by
    cases w with
    | none =>
      refine isG_u hx ⟨⟨c, (h0 c).mpr rfl, rfl⟩, fun v hv0 => ?_⟩
      obtain ⟨c', hc', hv⟩ := hv0
      have : c' = c := (h0 c').mp hc'
      rw [hv, this]
      exact Int.le_refl _
    | some s =>
      obtain ⟨y, hy⟩ := gif_some hM hE (ho := ho) (s := s) (F := vS M mean ho g b ls) hL
      have h1 : vNow M mean ho g b ls c (some s) = y := by
        show (gif M ho (vS M mean ho g b ls) c s).getD 0 = y
        rw [hy]
        rfl
      rw [h1]
      refine isG_u hx (isG_c (fun v => ⟨fun hv0 => ?_, fun hv0 => ?_⟩) (mxo_isG hy))
      · obtain ⟨to, q1, q2, q3⟩ := hv0
        exact ⟨_, (h0 _).mpr ⟨to, q1, q2, rfl⟩, q3⟩
      obtain ⟨c', hc', hv⟩ := hv0
      obtain ⟨to, q1, q2, q3⟩ := (h0 c').mp hc'
      exact ⟨to, q1, q2, by rw [hv, q3]; rfl⟩
  rw [ex]
  exact ⟨m3, G, A, rfl, hA3, hF3, hR3, (hp.ps.trans hP2).trans hP3, h0⟩
end RSOLVED
