/-! THE REFERENCE: states laid by layers, found again by their keys. -/
theorem pigeon : ∀ (B n : Nat) (f : Nat → Nat), (∀ i, i < n → f i < B) → (∀ i j, i < n → j < n → f i = f j → i = j) → n ≤ B
  | 0, n, f, h, _ => by
    rcases Nat.eq_zero_or_pos n with e | e
    · omega
    · have := h 0 e
      omega
  | B + 1, n, f, h, hi => by
    by_cases q : ∃ i, i < n ∧ f i = B
    · obtain ⟨i, h1, h2⟩ := q
      obtain ⟨k, rfl⟩ : ∃ k, n = k + 1 := ⟨n - 1, by omega⟩
      have := pigeon B k (fun j => if j = i then f k else f j) (fun j hj => by
        show (if j = i then f k else f j) < B
        split
        · next e =>
          have a1 := h k (by omega)
          have a2 : f k ≠ B := fun w => by have := hi k i (by omega) h1 (by rw [w, h2]); omega
          omega
        · next e =>
          have a1 := h j (by omega)
          have a2 : f j ≠ B := fun w => e (hi j i (by omega) h1 (by rw [w, h2]))
          omega) (fun a b ha hb e => by
        have e' : (if a = i then f k else f a) = (if b = i then f k else f b) := e
        split at e'
        · next e1 =>
          split at e'
          · next e2 => omega
          · next e2 =>
            have := hi k b (by omega) (by omega) e'
            omega
        · next e1 =>
          split at e'
          · next e2 =>
            have := hi a k (by omega) (by omega) e'
            omega
          · next e2 => exact hi a b (by omega) (by omega) e')
      omega
    · exact Nat.le_succ_of_le (pigeon B n f (fun i hin => by
        have a1 := h i hin
        have a2 : f i ≠ B := fun w => q ⟨i, hin, w⟩
        omega) hi)
/-- a place for a state at a day, by how many things there may be -/
def plD (M : Mt) (c d : Nat) : Nat := (psu szF d + cpl d (nS c 0) (nS c 1) (nS c 2)) * mks M + lmk M c
theorem szF_7 : psu szF 7 = 27132 := by decide +kernel
theorem plD_b {M : Mt} (hM : qOk M) (hE : qE M) {c d : Nat} (hD : Dm M c) (ht : tt c ≤ d) (hd : d ≤ 6) : plD M c d < 108528 := by
  have hH := hM.1
  have l1 := lmF_lt (qH M) (by omega) (qL M) (qL8 hM) _ (dg_lt c 12) hD.2.1
  obtain ⟨h, h1, h2⟩ := hE
  have l2 := (mkF_b (qH M) (by omega) (qL M) (qL8 hM)).2.2 h h1 h2
  have l3 : lmk M c < mks M := l1
  have l4 : mks M ≤ 4 := l2
  have l5 : cpl d (nS c 0) (nS c 1) (nS c 2) < szF d := cpo_lt hd hD.2.2 (by unfold cpo; rw [if_pos ht])
  have l6 := psu_lt (w := szF) l5 (show d < 7 by omega)
  rw [szF_7] at l6
  have l7 : (psu szF d + cpl d (nS c 0) (nS c 1) (nS c 2) + 1) * mks M ≤ 27132 * 4 := Nat.mul_le_mul (by omega) l4
  rw [Nat.succ_mul] at l7
  unfold plD
  omega
theorem plD_inj {M : Mt} (hM : qOk M) {c d c' d' : Nat} (hD : Dm M c) (ht : tt c ≤ d) (hd : d ≤ 6) (hD' : Dm M c') (ht' : tt c' ≤ d') (hd' : d' ≤ 6) (e : plD M c d = plD M c' d') : c = c' ∧ d = d' := by
  have hH := hM.1
  have l1 := lmF_lt (qH M) (by omega) (qL M) (qL8 hM) _ (dg_lt c 12) hD.2.1
  have l2 := lmF_lt (qH M) (by omega) (qL M) (qL8 hM) _ (dg_lt c' 12) hD'.2.1
  have h1 : cpo d c = some (cpl d (nS c 0) (nS c 1) (nS c 2)) := by unfold cpo; rw [if_pos ht]
  have h2 : cpo d' c' = some (cpl d' (nS c' 0) (nS c' 1) (nS c' 2)) := by unfold cpo; rw [if_pos ht']
  obtain ⟨e1, e2⟩ := mix_inj (k := mks M) l1 l2 e
  obtain ⟨e3, e4⟩ := psu_inj (w := szF) (cpo_lt hd hD.2.2 h1) (cpo_lt hd' hD'.2.2 h2) e1
  subst e3
  rw [← e4] at h2
  exact ⟨st_ext hD.1 hD'.1 (fun s k hs hk => cpo_inj hd hD.2.2 hD'.2.2 h1 h2 hs hk) (lmF_inj (qH M) (by omega) (qL M) (qL8 hM) _ (dg_lt c 12) _ (dg_lt c' 12) hD.2.1 hD'.2.1 e2), rfl⟩
/-! the table -/
def hv (x : Int64) : Nat := x.toBitVec.toNat / 2 ^ 45
theorem hv_e (x : Int64) : (lus x 45).toInt32 = nI (hv x) := by
  obtain ⟨n, hn, rfl⟩ := wb_of x
  unfold hv
  rw [show (45 : Int32) = nI 45 from rfl, lus_n hn (by omega), lN_i, wb_tn hn]
theorem hv_lt (x : Int64) : hv x < 524288 := by
  have := x.toBitVec.isLt
  exact Nat.div_lt_of_lt_mul (by omega)
def hx (c F : Nat) : Nat := hv ((rz c * 31 + lN F + 1) * -7046029254386353131)
theorem rz_inj {a b : Nat} (ha : a < 8 ^ 13) (hb : b < 8 ^ 13) : rz a = rz b ↔ a = b := by
  constructor
  · intro e
    have h1 := rf_lt2 a
    have h2 := rf_lt2 b
    exact rf_inj ha hb ((pk_lEQ (by omega) (by omega)).mp e)
  · intro e; rw [e]
/-- n states are laid: L; the layer of each: ly; where layers begin: A -/
def BT (m : Mm) (n : Nat) (L ly A : Nat → Nat) : Prop := n ≤ 160000 ∧ mI m 0 40 = nI n ∧ (∀ k, k < n → mYy m 17 k = rz (L k) ∧ L k < 8 ^ 13) ∧ (∀ i, i < 524288 → mX m 20 i = 0 ∨ ∃ k, k < n ∧ mX m 20 i = nI (k + 1)) ∧ cnt (fun i => decide (mX m 20 i ≠ 0)) 524288 ≤ n ∧ (∀ k, k < n → ∃ q, mX m 20 ((hx (L k) (A (ly k)) + q) % 524288) = nI (k + 1) ∧ ∀ q', q' < q → mX m 20 ((hx (L k) (A (ly k)) + q') % 524288) ≠ 0) ∧ ∀ k k', k < n → k' < n → ly k = ly k' → L k = L k' → k = k'
section RLAY
variable {N : Nat} {m : Mm}
theorem tR_placeOf (hN : 1000000 ≤ N) {n : Nat} {L ly A : Nat → Nat} (hB : BT m n L ly A) {c F G : Nat} (hc : c < 8 ^ 13) (hF : F ≤ 160000) (hG : G ≤ 160000) : ∃ q, f_Mo_placeOf N (rz c) (nI F) (nI G) m = some (nI ((hx c F + q) % 524288)) ∧ (mX m 20 ((hx c F + q) % 524288) = 0 ∨ ∃ k, k < n ∧ mX m 20 ((hx c F + q) % 524288) = nI (k + 1) ∧ L k = c ∧ F ≤ k ∧ k < G) ∧ ∀ q', q' < q → ¬ (mX m 20 ((hx c F + q') % 524288) = 0 ∨ ∃ k, k < n ∧ mX m 20 ((hx c F + q') % 524288) = nI (k + 1) ∧ L k = c ∧ F ≤ k ∧ k < G) := by
  obtain ⟨b1, b2, b3, b4, b5, b6, b7⟩ := hB
  obtain ⟨j0, hj0, ej0⟩ := cnt_ex (p := fun j => decide (mX m 20 j ≠ 0)) (n := 524288) (by omega)
  have ej0 : mX m 20 j0 = 0 := by simpa using ej0
  unfold f_Mo_placeOf
  rw [nI_l (by omega), hv_e]
  obtain ⟨q, hq, hs, hs', e⟩ := probe2 (T := 524288) (n := N) (i := hx c F) (fun n j => f_Mo_placeOf_L20 N (rz c) (nI F) (nI G) m (fun (z10_5 : Int32) => some z10_5) n (nI j)) (fun j => mX m 20 j = 0 ∨ ∃ k, k < n ∧ mX m 20 j = nI (k + 1) ∧ L k = c ∧ F ≤ k ∧ k < G) (fun j => some (nI j)) (fun f j hj hs => by
    show f_Mo_placeOf_L20 N (rz c) (nI F) (nI G) m _ (f + 1) (nI j) = _
    have hix : ix (nI j) 524288 := nI_in hj (by omega)
    rw [f_Mo_placeOf_L20]
    simp only [ck_t hix, nI_clamp (show j < 2 ^ 31 by omega)]
    rcases hs with hs | ⟨k, hk, e1, e2, e3, e4⟩
    · rw [if_pos hs]
    · rw [e1, if_neg (nI_ne0 (by omega) (by omega)), nI_pred, ck_t (nI_in (show k < 160000 by omega) (by omega)), nI_clamp (by omega), (b3 k hk).1, e2, if_pos rfl, if_neg (nI_nlt e3 (by omega)), if_pos (nI_lt e4 (by omega))]) (fun f j hj hs => by
    show f_Mo_placeOf_L20 N (rz c) (nI F) (nI G) m _ (f + 1) (nI j) = f_Mo_placeOf_L20 N (rz c) (nI F) (nI G) m _ f (nI ((j + 1) % 524288))
    have hix : ix (nI j) 524288 := nI_in hj (by omega)
    rw [f_Mo_placeOf_L20]
    simp only [ck_t hix, nI_clamp (show j < 2 ^ 31 by omega)]
    rcases b4 j hj with h0 | ⟨k, hk, e1⟩
    · exact absurd (Or.inl h0) hs
    · have hk160 : k < 160000 := by omega
      rw [if_neg (fun w => hs (Or.inl w)), e1, nI_pred, ck_t (nI_in hk160 (by omega)), nI_clamp (show k < 2 ^ 31 by omega), (b3 k hk).1, nI_1, nI_and (n := j + 1) 19 (by decide) (by omega)]
      by_cases q1 : L k = c
      · rw [q1, if_pos rfl]
        by_cases q2 : k < F
        · rw [if_pos (nI_lt q2 (by omega))]
        · rw [if_neg (nI_nlt (by omega) (by omega)), if_neg (nI_nlt (Nat.le_of_not_lt (fun q3 => hs (Or.inr ⟨k, hk, e1, q1, by omega, q3⟩))) (by omega))]
      · rw [if_neg (fun w => q1 ((rz_inj (b3 k hk).2 hc).mp w))]) hj0 (Or.inl ej0) (hv_lt _) (by omega)
  exact ⟨q, e, hs, hs'⟩
theorem u2_eq {α : Type} (f : Nat → Nat → α) (a k : Nat) (v : α) (j : Nat) : u2 f a k v a j = if j = k then v else f a j := by
  by_cases e : j = k
  · rw [e, u2_s, if_pos rfl]
  · rw [u2_k _ _ _ _ e, if_neg e]
/-- what lays leaves as it was -/
def GL (m m' : Mm) : Prop := (∀ a k, ¬ (a = 0 ∧ k = 40) → m'.1 a k = m.1 a k) ∧ m'.2.1 = m.2.1 ∧ (∀ a, a ≠ 20 → m'.2.2.1 a = m.2.2.1 a) ∧ ∀ a, a ≠ 17 → m'.2.2.2 a = m.2.2.2 a
theorem GL.refl {m : Mm} : GL m m := ⟨fun _ _ _ => rfl, rfl, fun _ _ => rfl, fun _ _ => rfl⟩
theorem GL.trans {m m1 m2 : Mm} (h : GL m m1) (h' : GL m1 m2) : GL m m2 := ⟨fun a k q => (h'.1 a k q).trans (h.1 a k q), h'.2.1.trans h.2.1, fun a q => (h'.2.2.1 a q).trans (h.2.2.1 a q), fun a q => (h'.2.2.2 a q).trans (h.2.2.2 a q)⟩
theorem tR_lays (hN : 1000000 ≤ N) {n : Nat} {L ly A : Nat → Nat} (hB : BT m n L ly A) {c j : Nat} (hc : c < 8 ^ 13) (hA : A j ≤ n) (hj : ∀ k, A j ≤ k → k < n → ly k = j) (hn : n < 160000) (hly : ∀ k, k < n → ly k ≤ j) (hlo : ∀ k, k < n → ly k = j → A j ≤ k) : ∃ m' n' L' ly', f_Mo_lays N (rz c) (nI (A j)) m = some m' ∧ BT m' n' L' ly' A ∧ GL m m' ∧ n ≤ n' ∧ n' ≤ n + 1 ∧ (∀ k, k < n → L' k = L k ∧ ly' k = ly k) ∧ (∃ k, A j ≤ k ∧ k < n' ∧ L' k = c) ∧ ∀ k, n ≤ k → k < n' → L' k = c ∧ ly' k = j ∧ ∀ k', k' < n → ly k' = j → L k' ≠ c := by
  obtain ⟨q, e, hs, hs'⟩ := tR_placeOf hN hB hc (F := A j) (G := n) (by omega) (by omega)
  have hi : (hx c (A j) + q) % 524288 < 524288 := Nat.mod_lt _ (by decide)
  unfold f_Mo_lays
  have hix : ix (nI ((hx c (A j) + q) % 524288)) 524288 := nI_in hi (by omega)
  have hin : ix (nI n) 160000 := nI_in hn (by omega)
  rw [hB.2.1, e, b1_s]
  simp only [ck_t hix, ck_t hin, nI_clamp (show (hx c (A j) + q) % 524288 < 2 ^ 31 by omega), nI_clamp (show n < 2 ^ 31 by omega), nI_1]
  rcases hs with h0 | ⟨k, hk, e1, e2, e3, e4⟩
  · have hnew : ∀ k', k' < n → ly k' = j → L k' ≠ c := by
      intro k hk hl he
      obtain ⟨p, p1, p2⟩ := hB.2.2.2.2.2.1 k hk
      rw [hl, he] at p1 p2
      have hst : mX m 20 ((hx c (A j) + p) % 524288) = 0 ∨ ∃ k, k < n ∧ mX m 20 ((hx c (A j) + p) % 524288) = nI (k + 1) ∧ L k = c ∧ A j ≤ k ∧ k < n := Or.inr ⟨k, hk, p1, he, hlo k hk hl, hk⟩
      rcases Nat.lt_trichotomy q p with w | w | w
      · exact p2 q w h0
      · subst w
        rw [p1] at h0
        exact nI_ne0 (by omega) (by omega) h0
      · exact hs' p w hst
    refine ⟨vX (vI (vY m 17 n (rz c)) 0 40 (nI (n + 1))) 20 ((hx c (A j) + q) % 524288) (nI (n + 1)), n + 1, (fun k => if k = n then c else L k), (fun k => if k = n then j else ly k), by rw [if_pos h0], ?_, ?_, by omega, by omega, fun k hk => ?_, ⟨n, hA, by omega, by simp⟩, fun k h1 h2 => ?_⟩
    · have eT : ∀ i, mX (vX (vI (vY m 17 n (rz c)) 0 40 (nI (n + 1))) 20 ((hx c (A j) + q) % 524288) (nI (n + 1))) 20 i = if i = (hx c (A j) + q) % 524288 then nI (n + 1) else mX m 20 i := fun i => u2_eq _ _ _ _ _
      have eY : ∀ i, mYy (vX (vI (vY m 17 n (rz c)) 0 40 (nI (n + 1))) 20 ((hx c (A j) + q) % 524288) (nI (n + 1))) 17 i = if i = n then rz c else mYy m 17 i := fun i => u2_eq _ _ _ _ _
      have nz : ¬ nI (n + 1) = 0 := nI_ne0 (by omega) (by omega)
      refine ⟨by omega, ?_, fun k hk => ?_, fun i hi2 => ?_, ?_, fun k hk => ?_, fun k k' hk hk' hl he => ?_⟩
      · show u2 m.1 0 40 (nI (n + 1)) 0 40 = _
        rw [u2_s]
      · rw [eY]
        by_cases ek : k = n
        · simp only [if_pos ek]
          exact ⟨trivial, hc⟩
        · simp only [if_neg ek]
          exact hB.2.2.1 k (by omega)
      · rw [eT]
        by_cases ei : i = (hx c (A j) + q) % 524288
        · rw [if_pos ei]
          exact Or.inr ⟨n, by omega, rfl⟩
        · rw [if_neg ei]
          rcases hB.2.2.2.1 i hi2 with w | ⟨k, hk, w⟩
          · exact Or.inl w
          · exact Or.inr ⟨k, by omega, w⟩
      · have := cnt_upd (p := fun i => decide (mX m 20 i ≠ 0)) (p' := fun i => decide (mX (vX (vI (vY m 17 n (rz c)) 0 40 (nI (n + 1))) 20 ((hx c (A j) + q) % 524288) (nI (n + 1))) 20 i ≠ 0)) (i := (hx c (A j) + q) % 524288) (fun i hi => by
          show decide (mX (vX (vI (vY m 17 n (rz c)) 0 40 (nI (n + 1))) 20 ((hx c (A j) + q) % 524288) (nI (n + 1))) 20 i ≠ 0) = _
          rw [eT, if_neg hi]) 524288
        have e2 : (if (hx c (A j) + q) % 524288 < 524288 then 1 else 0) = 1 := if_pos hi
        rw [e2] at this
        have := hB.2.2.2.2.1
        omega
      · by_cases ek : k = n
        · subst ek
          simp only [if_true]
          refine ⟨q, by rw [eT, if_pos rfl], fun q' hq' => ?_⟩
          rw [eT]
          split
          · exact nz
          · exact fun w => hs' q' hq' (Or.inl w)
        · simp only [if_neg ek]
          obtain ⟨p, p1, p2⟩ := hB.2.2.2.2.2.1 k (by omega)
          refine ⟨p, ?_, fun q' hq' => ?_⟩
          · rw [eT, if_neg (fun w => ?_)]
            · exact p1
            · rw [w, h0] at p1
              exact nI_ne0 (n := k + 1) (by omega) (by omega) p1.symm
          · rw [eT]
            split
            · exact nz
            · exact p2 q' hq'
      · by_cases ek : k = n
        · by_cases ek' : k' = n
          · omega
          · simp only [if_pos ek, if_neg ek'] at hl he
            exact absurd he.symm (hnew k' (by omega) hl.symm)
        · by_cases ek' : k' = n
          · simp only [if_neg ek, if_pos ek'] at hl he
            exact absurd he (hnew k (by omega) hl)
          · simp only [if_neg ek, if_neg ek'] at hl he
            exact hB.2.2.2.2.2.2 k k' (by omega) (by omega) hl he
    · refine ⟨fun a k hak => ?_, rfl, fun a ha => ?_, fun a ha => ?_⟩
      · show u2 m.1 0 40 _ a k = _
        unfold u2
        rw [if_neg hak]
      · funext i
        exact u2_a _ _ _ _ ha
      · funext i
        exact u2_a _ _ _ _ ha
    · simp only [show ¬ k = n by omega, if_false]
      exact ⟨trivial, trivial⟩
    · simp only [show k = n by omega, if_true]
      exact ⟨trivial, trivial, hnew⟩
  · refine ⟨m, n, L, ly, by rw [e1, if_neg (nI_ne0 (by omega) (by omega))], hB, GL.refl, by omega, by omega, fun _ _ => ⟨rfl, rfl⟩, ⟨k, e3, e4, e2⟩, fun k h1 h2 => by omega⟩
end RLAY
