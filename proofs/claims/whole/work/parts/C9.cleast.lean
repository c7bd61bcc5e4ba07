/-! COST: the class's least of the greatest. -/
section CLEAST
variable {N : Nat} {M : Mt}
/-- the walked row gets a new array -/
theorem ShC_sR30 {S : St} {q : Nat} (h : ShC S) (hq : q < S.2.2.2.2.1) (hk : S.2.1 q = 12) : ShC (sR S 30 2 q) := by
  obtain ⟨⟨a1, a2, a3⟩, b1, b2, b3, b4, b5, b6, b7⟩ := h
  have ne : ∀ a k, ¬ (a = 30 ∧ k = 2) → (sR S 30 2 q).1 a k = S.1 a k := fun a k w => by
    show u2 S.1 30 2 (some q) a k = _
    unfold u2
    rw [if_neg w]
  refine ⟨⟨a1, a2, fun e he => ?_⟩, fun t' ht' f hf => ?_, fun s hs e he => ?_, fun e he => ?_, fun f hf => ?_, fun e he t' ht' => ?_, b6, b7⟩
  · rw [ne _ _ (rTC_no e he).2.2.2]
    exact a3 e he
  · rw [ne _ _ (by omega)] at hf
    exact b1 t' ht' f hf
  · rw [ne _ _ (by omega)] at he
    exact b2 s hs e he
  · rw [ne _ _ (by omega)] at he
    exact b3 e he
  · have hf' : u2 S.1 30 2 (some q) 30 2 = some f := hf
    rw [u2_s] at hf'
    cases hf'
    exact ⟨hq, hk⟩
  · rw [ne _ _ (by omega)] at ht'
    exact b5 e he t' ht'
theorem psz_7 : psu szF 7 = 27132 := by decide +kernel
theorem need_a (hM : qOk M) (hE : qE M) : sta M (qD M + 1) * mks M ≤ 108528 := by
  have hD := hM.2.1
  have h1 := sta_le M (d := qD M + 1) (by omega)
  have h3 := psu_mono szF (show qD M + 1 ≤ 7 by omega)
  rw [psz_7] at h3
  have h2 := mks_4 hM hE
  calc sta M (qD M + 1) * mks M ≤ 27132 * 4 := Nat.mul_le_mul (by omega) h2
    _ = 108528 := by decide
theorem t_allPlaces (hM : qOk M) {S : St} {m : Mm} (hL : RLm m M) : f_Ranks_allPlaces N S m = some (nI (sta M (qD M + 1) * mks M)) := by
  have hD := hM.2.1
  unfold f_Ranks_allPlaces
  rw [hL.1, nI_1, ck_t (nI_in (by omega) (by omega)), nI_clamp (by omega), hL.2.2.2.1 _ (Nat.le_refl _), hL.2.1, pk_mul]
def Fr4 (m m' : Mm) : Prop := (∀ a k, a ≠ 30 → m'.1 a k = m.1 a k) ∧ (∀ a k, a ≠ 30 → m'.2.1 a k = m.2.1 a k) ∧ (∀ a, a < 30 ∨ a = 98 ∨ a = 100 → m'.2.2.1 a = m.2.2.1 a) ∧ ∀ a, a < 34 ∨ a = 99 → m'.2.2.2 a = m.2.2.2 a
/-- the walk itself, the row being large enough or not -/
theorem tC_least1 (hM : qOk M) (hE : qE M) (hN : 1000000 ≤ N) {S : St} {m : Mm} {g c d s : Nat} {fl : Int} (hg : g < 3) (hw : NW M c d none) (hfl : sm6 fl) (hC : CIb M S m) (hWK : WK m s) (hs : s + 1 < 2 ^ 31) (hTE : ∀ b', b' ≤ qB M → TE M S m g b') : ∃ m' o, (b3 (f_Rows_walkOn N S (cs c d) ((cs c d &&& ((-68719476736)))) (33 + 3 * (3 * g + qB M)) (vJ (vJ (vI m 30 3 ((((mI m 30 3)) + 1))) 30 4 9223372036854775807) 30 5 (lz fl))) fun m5 => some ((mJ m5 30 4), m5, S)) = some (zMx o, m', S) ∧ CIb M S m' ∧ Fr4 m m' ∧ WK m' (s + 1) ∧ (∀ x, o = some x → sm6 x ∧ ∃ T, Bl M (qD M - d) (dg c 12 * 8 ^ 12) T ∧ x = knV M g c T) ∧ Dn M g c fl o (dg c 12 * 8 ^ 12) d := by
  have hD := hM.2.1
  obtain ⟨hL, hd, hh, hcd, _⟩ := hw
  obtain ⟨fw, hfw, hfo⟩ := hC.2.2.1.2.1
  have hwl : S.2.2.1 fw ≤ 108528 := by
    have := hC.2.2.1.2.2
    unfold wlen at this
    rw [hfw] at this
    exact this
  generalize hm1 : vJ (vJ (vI m 30 3 ((((mI m 30 3)) + 1))) 30 4 9223372036854775807) 30 5 (lz fl) = m1
  have c1 : ∀ a k, ¬ (a = 30 ∧ k = 3) → m1.1 a k = m.1 a k := fun a k q => by
    rw [← hm1]
    show u2 m.1 30 3 _ a k = _
    unfold u2
    rw [if_neg q]
  have c13 : mI m1 30 3 = nI (s + 1) := by
    rw [← hm1]
    show u2 m.1 30 3 (mI m 30 3 + 1) 30 3 = _
    rw [u2_s, hWK.1, nI_1]
  have c2 : ∀ a k, a ≠ 30 → m1.2.1 a k = m.2.1 a k := fun a k q => by
    rw [← hm1]
    show u2 (u2 m.2.1 30 4 9223372036854775807) 30 5 (lz fl) a k = _
    unfold u2
    rw [if_neg (fun w => q w.1), if_neg (fun w => q w.1)]
  have c24 : mJ m1 30 4 = zMx none := by
    rw [← hm1]
    show u2 (u2 m.2.1 30 4 9223372036854775807) 30 5 (lz fl) 30 4 = _
    unfold u2
    rw [if_neg (by omega), if_pos ⟨rfl, rfl⟩]
    rfl
  have c25 : mJ m1 30 5 = lz fl := by
    rw [← hm1]
    show u2 (u2 m.2.1 30 4 9223372036854775807) 30 5 (lz fl) 30 5 = _
    rw [u2_s]
  have c3 : m1.2.2 = m.2.2 := by rw [← hm1]; rfl
  have hTE1 : ∀ g' b', TE M S m g' b' → TE M S m1 g' b' := fun g' b' q => TE_of (fun f hf => ⟨hf, rfl, fun p => by unfold mYy; rw [c3]⟩) q
  have hTS1 : ∀ g' k', TS M S m g' k' → TS M S m1 g' k' := fun g' k' q => TS_of (fun f hf => ⟨hf, rfl, fun p => by unfold mYy; rw [c3]⟩) q
  have he1 : Env S m1 M := Env_f (fun a k _ _ q _ => c1 a k (fun w => q w.1)) (fun a _ => by rw [c3]) hC.2.1.2.2.2.2 hC.2.1
  have hI : Iw M g c d (s + 1) fl fw (S.2.2.1 fw) (qD M - d) (dg c 12 * 8 ^ 12) m1 none (d + 0) := by
    refine ⟨c13, c24, c25, fun x hx => (by cases hx), fun e' t' p _ _ _ _ _ h6 => ?_⟩
    obtain ⟨v, v1, v2⟩ := hWK.2 fw p hfo
    have : mX m1 fw p = mX m fw p := by unfold mX; rw [c3]
    rw [this, v2] at h6
    have := (nI_eq (by omega) (by omega)).mp h6
    omega
  obtain ⟨m', o, k1, k2, k3, k4, k5, k6⟩ := tC_walk (N := N) (S := S) hM hE (by omega) hg ⟨hL, hd, hh, hcd, fun s hs => by cases hs⟩ hfl hfw hfo rfl (by omega) 8 (qD M - d) 0 (dg c 12 * 8 ^ 12) m1 none (by omega) (by omega) (Tc_0 hM hL) (fun T h => h) he1 (fun b' hb' => hTE1 g b' (hTE b' hb')) hI
  have k1' : f_Rows_walkOn N S (cs c d) (cs (dg c 12 * 8 ^ 12) d) (33 + 3 * (3 * g + qB M)) m1 = some m' := k1
  have k3' : mJ m' 30 4 = zMx o := k3.2.1
  have e1 : ∀ a k, ¬ (a = 30 ∧ k = 3) → m'.1 a k = m.1 a k := fun a k q => by rw [k2.1]; exact c1 a k q
  have fl4 : ∀ a, a < 34 ∨ a = 99 → m'.2.2.2 a = m.2.2.2 a := fun a ha => by
    have := k2.2.2.2.1 a (fun t ht w => by
      have h95 := tKl_95 t ht
      obtain ⟨f, hf, hfo', _⟩ := hC.2.1.2.2.2.2.1 t ht
      rw [hf] at w
      have : f = a := Option.some.inj w
      omega)
    rw [this, c3]
  refine ⟨m', o, ?_, ⟨hC.1, k2.env hfo he1, hC.2.2.1, fun g' b' hg' hb' => ?_, fun g' k' hg' hk' => ?_⟩, ⟨fun a k q => e1 a k (fun w => q w.1), fun a k q => ?_, fun a ha => ?_, fl4⟩, ⟨k3.1, fun a i ha => ?_⟩, k3.2.2.2.1, k5⟩
  · rw [cs_hi hL.1 (by omega), k1', b3_s, k3']
  · have : mI m' (34 + 3 * (3 * g' + b')) 1 = mI m (34 + 3 * (3 * g' + b')) 1 := e1 _ _ (by omega)
    rw [this]
    exact (hC.2.2.2.1 g' b' hg' hb').imp id (fun q => k2.2.2.2.2.1 g' b' hg' hb' (hTE1 g' b' q))
  · have : mI m' (62 + 3 * (4 * g' + k')) 1 = mI m (62 + 3 * (4 * g' + k')) 1 := e1 _ _ (by omega)
    rw [this]
    exact (hC.2.2.2.2 g' k' hg' hk').imp id (fun q => k2.2.2.2.2.2 g' k' hg' hk' (hTS1 g' k' q))
  · rw [k2.2.1 a k (fun w => q w.1)]
    exact c2 a k q
  · rw [k2.2.2.1 a (by omega), c3]
  · by_cases q : a = fw
    · rcases k6 i with w | ⟨w, _⟩
      · obtain ⟨v, v1, v2⟩ := hWK.2 fw i hfo
        refine ⟨v, by omega, ?_⟩
        rw [q, w]
        have : mX m1 fw i = mX m fw i := by unfold mX; rw [c3]
        rw [this, v2]
      · exact ⟨s + 1, Nat.le_refl _, by rw [q]; exact w⟩
    · obtain ⟨v, v1, v2⟩ := hWK.2 a i ha
      refine ⟨v, by omega, ?_⟩
      have : mX m' a i = mX m a i := by unfold mX; rw [k2.2.2.1 a q, c3]
      rw [this, v2]
theorem tC_least (hM : qOk M) (hE : qE M) (hN : 1000000 ≤ N) {S : St} {m : Mm} {g c d s : Nat} {fl : Int} (hg : g < 3) (hw : NW M c d none) (hfl : sm6 fl) (hC : CIb M S m) (hWK : WK m s) (hs : s + 1 < 2 ^ 31) (hTE : ∀ b', b' ≤ qB M → TE M S m g b') : ∃ m' S' o, f_Rows_leastGreatest N S (cs c d) (33 + 3 * (3 * g + qB M)) (lz fl) m = some (zMx o, m', S') ∧ CIb M S' m' ∧ Pay S S' 1 ∧ Fr4 m m' ∧ WK m' (s + 1) ∧ (∀ x, o = some x → sm6 x ∧ ∃ T, Bl M (qD M - d) (dg c 12 * 8 ^ 12) T ∧ x = knV M g c T) ∧ Dn M g c fl o (dg c 12 * 8 ^ 12) d := by
  obtain ⟨fw, hfw, hfo⟩ := hC.2.2.1.2.1
  have hwl : S.2.2.1 fw ≤ 108528 := by
    have := hC.2.2.1.2.2
    unfold wlen at this
    rw [hfw] at this
    exact this
  have hneed := need_a hM hE
  generalize hnd : sta M (qD M + 1) * mks M = need at hneed
  unfold f_Rows_leastGreatest
  rw [t_allPlaces hM hC.2.1.2.2.1, hnd, b1_s, hfw]
  simp only [b1_s, jn]
  by_cases hne : need ≤ S.2.2.1 fw
  · rw [if_pos (show nI need ≤ Int32.ofNat (S.2.2.1 fw) from nI_le hne (by omega))]
    obtain ⟨m', o, k1, k2, k3, k4, k5, k6⟩ := tC_least1 hM hE hN hg hw hfl hC hWK hs hTE
    exact ⟨m', S, o, k1, k2, Pay.refl.mono (by omega), k3, k4, k5, k6⟩
  · rw [if_neg (show ¬ nI need ≤ Int32.ofNat (S.2.2.1 fw) from nI_ge (by omega) (by omega))]
    have e2 : (2 : Int32) * Int32.ofNat (S.2.2.1 fw) = nI (2 * S.2.2.1 fw) := pk_mul 2 _
    have hmin : (if 108528 < 2 * S.2.2.1 fw then 108528 else 2 * S.2.2.1 fw) < 2 ^ 31 := by split <;> omega
    rw [e2, show (108528 : Int32) = nI 108528 from rfl, nI_min (by omega) (by omega), nI_max (by omega) hmin]
    generalize hn' : (if need < (if 108528 < 2 * S.2.2.1 fw then 108528 else 2 * S.2.2.1 fw) then (if 108528 < 2 * S.2.2.1 fw then 108528 else 2 * S.2.2.1 fw) else need) = n'
    have hnl : n' ≤ 108528 ∧ S.2.2.1 fw < n' ∧ need ≤ n' ∧ (n' = 108528 ∨ 2 * S.2.2.1 fw ≤ n') := by
      rw [← hn']
      split <;> split <;> omega
    have hN1 := kTC_100 hC.1
    have hS1 : ShC (aS S 12 n') := ShC_aS hC.1
    have hk12 : (aS S 12 n').2.1 S.2.2.2.2.1 = 12 := by
      show u1 S.2.1 S.2.2.2.2.1 12 S.2.2.2.2.1 = 12
      unfold u1
      rw [if_pos rfl]
    have hS2 : ShC (sR (aS S 12 n') 30 2 S.2.2.2.2.1) := ShC_sR30 hS1 (Nat.lt_succ_self _) hk12
    have hcond : ¬ nI n' < 0 ∧ (nI n').toNatClampNeg * abt 12 ≤ 536870912 := by
      refine ⟨nI_pos (by omega), ?_⟩
      rw [nI_clamp (by omega)]
      have : abt 12 ≤ 8 := by decide
      calc n' * abt 12 ≤ 108528 * 8 := Nat.mul_le_mul (by omega) this
        _ ≤ 536870912 := by decide
    rw [ck_t hcond, nI_clamp (show n' < 2 ^ 31 by omega), ckc_t hS1, ckc_t hS2]
    generalize hSS : sR (aS S 12 n') 30 2 S.2.2.2.2.1 = S2 at hS2 ⊢
    have hq1 : S2.1 30 2 = some S.2.2.2.2.1 := by
      rw [← hSS]
      show u2 S.1 30 2 (some S.2.2.2.2.1) 30 2 = _
      rw [u2_s]
    have hqo : ∀ a k, ¬ (a = 30 ∧ k = 2) → S2.1 a k = S.1 a k := fun a k hak => by
      rw [← hSS]
      show u2 S.1 30 2 (some S.2.2.2.2.1) a k = _
      unfold u2
      rw [if_neg hak]
    have hql : ∀ a, S2.2.2.1 a = if a = S.2.2.2.2.1 then n' else S.2.2.1 a := fun a => by rw [← hSS]; rfl
    have hlo : ∀ t' f', t' ∈ tKl → S.1 t' 0 = some f' → f' ≠ S.2.2.2.2.1 := fun t' f' ht' hf' => by
      have := (hC.1.2.1 t' ht' f' hf').1
      omega
    have hflen : ∀ t', t' ∈ tKl → flen S2 t' = flen S t' := fun t' ht' => by
      obtain ⟨f', hf', _, _⟩ := hC.2.1.2.2.2.2.1 t' ht'
      rw [flen_eq hf', flen_eq (f := f') (by rw [hqo _ _ (by omega)]; exact hf'), hql, if_neg (hlo t' f' ht' hf')]
    have hwl2 : wlen S2 = n' := by
      unfold wlen
      rw [hq1]
      show S2.2.2.1 S.2.2.2.2.1 = n'
      rw [hql, if_pos rfl]
    have hwl1 : wlen S = S.2.2.1 fw := by
      unfold wlen
      rw [hfw]
    have hTB' : TB S2 := by
      obtain ⟨t1, t2, t3⟩ := hC.2.1.2.2.2.2
      refine ⟨fun t' ht' => ?_, fun t' ht' t'' ht'' e => ?_, fun i hi => ?_⟩
      · obtain ⟨f', a1, a2, a3⟩ := t1 t' ht'
        exact ⟨f', by rw [hqo _ _ (by omega)]; exact a1, a2, by rw [hql, if_neg (hlo t' f' ht' a1)]; exact a3⟩
      · rw [hqo _ _ (by omega), hqo _ _ (by omega)] at e
        exact t2 t' ht' t'' ht'' e
      · rw [hqo _ _ (by omega)]
        exact t3 i hi
    have hLB' : LB S2 := ⟨fun t' ht' => by rw [hflen t' ht']; exact hC.2.2.1.1 t' ht', ⟨_, hq1, Or.inr hN1⟩, by rw [hwl2]; exact hnl.1⟩
    have hPay : Pay S S2 1 := by
      have hk : S2.2.2.2.2.1 = S.2.2.2.2.1 + 1 ∧ S2.2.2.2.2.2 = S.2.2.2.2.2 + n' := by rw [← hSS]; exact ⟨rfl, rfl⟩
      refine ⟨by omega, ?_, by omega, by omega⟩
      have h1 : (tKl.map (fun t => pot (flen S2 t) (mst t))) = (tKl.map (fun t => pot (flen S t) (mst t))) := List.map_congr_left (fun t ht => by rw [hflen t ht])
      have hp : pot (wlen S) 108528 + n' ≤ pot (wlen S2) 108528 := by
        rw [hwl2, hwl1]
        unfold pot
        rw [if_neg (by omega)]
        by_cases q : n' = 108528
        · rw [if_pos q]; omega
        · rw [if_neg q]
          rcases hnl.2.2.2 with w | w <;> omega
      rw [hk.2]
      unfold Phi
      rw [h1]
      omega
    have x3 : ∀ a i, mX (aM m S) a i = if a = S.2.2.2.2.1 then 0 else mX m a i := fun a i => rfl
    have y4 : ∀ a, a ≠ S.2.2.2.2.1 → (aM m S).2.2.2 a = m.2.2.2 a := fun a ha => by
      funext j
      show ur m.2.2.2 S.2.2.2.2.1 (fun _ => 0) a j = _
      unfold ur
      rw [if_neg ha]
    have x4 : ∀ a, a ≠ S.2.2.2.2.1 → (aM m S).2.2.1 a = m.2.2.1 a := fun a ha => by
      funext j
      show ur m.2.2.1 S.2.2.2.2.1 (fun _ => 0) a j = _
      unfold ur
      rw [if_neg ha]
    have hTE2 : ∀ g' b', g' < 3 → b' < 3 → TE M S m g' b' → TE M S2 (aM m S) g' b' := fun g' b' hg' hb' q => TE_of (fun f hf => by
      rw [hqo _ _ (by omega)] at hf
      have hne := hlo _ f (tE_mem g' hg' b' hb') hf
      exact ⟨hf, by rw [hql, if_neg hne], fun p => by unfold mYy; rw [y4 f hne]⟩) q
    have hTS2 : ∀ g' k', g' < 3 → k' < 4 → TS M S m g' k' → TS M S2 (aM m S) g' k' := fun g' k' hg' hk' q => TS_of (fun f hf => by
      rw [hqo _ _ (by omega)] at hf
      have hne := hlo _ f (tS_mem g' hg' k' hk') hf
      exact ⟨hf, by rw [hql, if_neg hne], fun p => by unfold mYy; rw [y4 f hne]⟩) q
    have hC2 : CIb M S2 (aM m S) := ⟨hS2, Env_f (m := m) (fun a k _ _ _ _ => rfl) (fun a ha => x4 a (by omega)) hTB' hC.2.1, hLB', fun g' b' hg' hb' => (hC.2.2.2.1 g' b' hg' hb').imp id (hTE2 g' b' hg' hb'), fun g' k' hg' hk' => (hC.2.2.2.2 g' k' hg' hk').imp id (hTS2 g' k' hg' hk')⟩
    have hWK2 : WK (aM m S) s := WK_f (m := m) rfl (fun a i _ => by
      have := x3 a i
      by_cases q : a = S.2.2.2.2.1
      · rw [if_pos q] at this; exact Or.inr this
      · rw [if_neg q] at this; exact Or.inl this) hWK
    have hB := hM.2.2.2.1
    obtain ⟨m', o, k1, k2, k3, k4, k5, k6⟩ := tC_least1 hM hE hN hg hw hfl hC2 hWK2 hs (fun b' hb' => hTE2 g b' hg (by omega) (hTE b' hb'))
    refine ⟨m', S2, o, k1, k2, hPay, ⟨fun a k q => k3.1 a k q, fun a k q => k3.2.1 a k q, fun a ha => ?_, fun a ha => ?_⟩, k4, k5, k6⟩
    · rw [k3.2.2.1 a ha]
      exact x4 a (by omega)
    · rw [k3.2.2.2 a ha]
      exact y4 a (by omega)
end CLEAST
