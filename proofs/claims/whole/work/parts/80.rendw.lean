/-! THE REFERENCE: ends. -/
section RENDW
variable {N : Nat} {m : Mm} {M : Mt}
theorem sel27 {β : Type} (A : Int32 → β) {n : Nat} (hn : n ≤ 3) : (if nI n = 0 then A 1 else (if nI n = 1 then A 3 else (if nI n = 2 then A 9 else A 27))) = A (nI (3 ^ n)) := by
  rcases (by omega : n = 0 ∨ n = 1 ∨ n = 2 ∨ n = 3) with rfl | rfl | rfl | rfl
  · rw [if_pos (show nI 0 = 0 from rfl)]; rfl
  · rw [if_neg (show ¬ nI 1 = 0 by decide), if_pos (show nI 1 = 1 from rfl)]; rfl
  · rw [if_neg (show ¬ nI 2 = 0 by decide), if_neg (show ¬ nI 2 = 1 by decide), if_pos (show nI 2 = 2 from rfl)]; rfl
  · rw [if_neg (show ¬ nI 3 = 0 by decide), if_neg (show ¬ nI 3 = 1 by decide), if_neg (show ¬ nI 3 = 2 by decide)]; rfl
theorem RE_same {m m' : Mm} (h1 : m'.1 = m.1) (h4 : m'.2.2.2 = m.2.2.2) (h3 : m'.2.2.1 15 = m.2.2.1 15) (h : RE m M) : RE m' M := by
  have e1 : mI m' 0 33 = mI m 0 33 := by unfold mI; rw [h1]
  have e2 : ∀ j, mYy m' 14 j = mYy m 14 j := fun j => by unfold mYy; rw [h4]
  have e3 : ∀ j, mX m' 15 j = mX m 15 j := fun j => by unfold mX; rw [h3]
  unfold RE at *
  simp only [e1, e2, e3]
  exact h
theorem RE_ins {m : Mm} {j c g b E : Nat} (hj : j < 262144) (hc : c < 8 ^ 13) (hg : g < 3) (hb : b < 3) (hE : mI m 0 33 = nI E) (hlt : E < 131072) (h : RE m M) : RE (vI (vX (vY m 14 j (lN (kE c g b))) 15 j (iz (gE M g b c))) 0 33 (nI E + 1)) M := by
  obtain ⟨⟨E', h1, h2, h3⟩, h4⟩ := h
  have eE : E' = E := (nI_eq (by omega) (by omega)).mp (h1.symm.trans hE)
  subst eE
  refine ⟨⟨E' + 1, ?_, by omega, ?_⟩, fun j' c' g' b' hj' hL' hg' hb' hk => ?_⟩
  · show u2 m.1 0 33 (nI E' + 1) 0 33 = _
    rw [u2_s, nI_1]
  · have := cnt_upd (p := fun i => decide (mYy m 14 i ≠ 0)) (p' := fun i => decide (mYy (vI (vX (vY m 14 j (lN (kE c g b))) 15 j (iz (gE M g b c))) 0 33 (nI E' + 1)) 14 i ≠ 0)) (i := j) (fun i hi => by
      show decide (u2 m.2.2.2 14 j (lN (kE c g b)) 14 i ≠ 0) = _
      rw [u2_k _ _ _ _ hi]
      rfl) 262144
    have e2 : (if j < 262144 then 1 else 0) = 1 := if_pos hj
    rw [e2] at this
    omega
  · have hk2 : u2 m.2.2.2 14 j (lN (kE c g b)) 14 j' = lN (kE c' g' b') := hk
    show u2 m.2.2.1 15 j (iz (gE M g b c)) 15 j' = _
    by_cases e : j' = j
    · subst e
      rw [u2_s] at hk2 ⊢
      obtain ⟨rfl, rfl, rfl⟩ := kE_inj hc hL'.1 hg hb hg' hb' hk2
      rfl
    · rw [u2_k _ _ _ _ e] at hk2 ⊢
      exact h4 j' c' g' b' hj' hL' hg' hb' hk2
theorem tR_probe {x1 : Int64} {x3 x4 : Int32} {key : Int64} {K : Int32 → Option (Int32 × Mm)} (Q : Option (Int32 × Mm) → Prop) (hk : ¬ key = 0) {i0 j0 : Nat} (hi0 : i0 < 262144) (hj0 : j0 < 262144) (ej0 : mYy m 14 j0 = 0) (hN : 1000000 ≤ N) (hQ : ∀ j, j < 262144 → (mYy m 14 j = 0 ∨ mYy m 14 j = key) → Q (K (nI j))) : Q (f_Mo_ends_L30 N x1 x3 x4 key m K N (nI i0)) := by
  obtain ⟨q, hq, hs, _, e⟩ := probe2 (T := 262144) (n := N) (fun n j => f_Mo_ends_L30 N x1 x3 x4 key m K n (nI j)) (fun j => mYy m 14 j = 0 ∨ mYy m 14 j = key) (fun j => K (nI j)) (fun n j hj hs => by
    show f_Mo_ends_L30 N x1 x3 x4 key m K (n + 1) (nI j) = K (nI j)
    rw [f_Mo_ends_L30, ck_t (nI_in hj (by omega))]
    simp only [nI_clamp (show j < 2 ^ 31 by omega)]
    rcases hs with hs | hs
    · rw [if_pos hs]
    · rw [if_neg (by rw [hs]; exact hk), ck_t (nI_in hj (by omega)), if_pos hs]) (fun n j hj hs => by
    show f_Mo_ends_L30 N x1 x3 x4 key m K (n + 1) (nI j) = f_Mo_ends_L30 N x1 x3 x4 key m K n (nI ((j + 1) % 262144))
    rw [f_Mo_ends_L30, ck_t (nI_in hj (by omega))]
    simp only [nI_clamp (show j < 2 ^ 31 by omega)]
    rw [if_neg (fun w => hs (Or.inl w)), ck_t (nI_in hj (by omega)), if_neg (fun w => hs (Or.inr w)), nI_1, nI_and (n := j + 1) 18 (by decide) (by omega)]) hj0 (Or.inl ej0) hi0 (by omega)
  have e' : f_Mo_ends_L30 N x1 x3 x4 key m K N (nI i0) = K (nI ((i0 + q) % 262144)) := e
  rw [e']
  exact hQ _ (Nat.mod_lt _ (by decide)) hs
theorem tR_ends (hM : qOk M) (hE : qE M) (hW : RW m M) (hR : RE m M) (hN : 1000000 ≤ N) {c g b : Nat} (hL' : Lg M c) (h3 : hl c ≤ 3) (hg : g < 3) (hb : b < 3) : ∃ m', f_Mo_ends N (rz c) (nI g) (nI b) m = some (iz (gE M g b c), m') ∧ GE m m' ∧ RE m' M := by
  obtain ⟨⟨E, r1, r2, r3⟩, r4⟩ := hR
  obtain ⟨i0, hi0, ei0⟩ := hash_46 (lN (kE c g b) * -7046029254386353131)
  obtain ⟨j0, hj0, ej0⟩ := cnt_ex (p := fun j => decide (mYy m 14 j ≠ 0)) (n := 262144) (by omega)
  have ej0 : mYy m 14 j0 = 0 := by simpa using ej0
  unfold f_Mo_ends
  rw [kE_key hg hb, ei0]
  refine tR_probe (fun o => ∃ m', o = some (iz (gE M g b c), m') ∧ GE m m' ∧ RE m' M) (kE_0 (c := c) hg hb) hi0 hj0 ej0 hN (fun j hj hs => ?_)
  show ∃ m', ck (ix (nI j) 262144) _ = _ ∧ _
  rw [ck_t (nI_in hj (by omega))]
  simp only [nI_clamp (show j < 2 ^ 31 by omega)]
  by_cases hk : mYy m 14 j = lN (kE c g b)
  · refine ⟨m, ?_, GE.refl, ⟨E, r1, r2, r3⟩, r4⟩
    rw [if_pos hk, ck_t (nI_in hj (by omega)), r4 j c g b hj hL' hg hb hk]
  · rw [if_neg hk]
    obtain ⟨m2, e1, e2, e3, e4, e5, e6⟩ := tR_bare (N := N) (m := m) (c := c) (x3 := nI g) (x4 := nI b) (x5 := lN (kE c g b)) (x7 := nI j) h3 (by omega) (fun (z18_8 : Int32) (z18_9 : Int64) (z18_11 : Int32) (m18 : Mm) => (jn (fun (s19 : Int32) => f_Mo_ends_L195 N (rz c) (nI g) (nI b) (lN (kE c g b)) (nI j) z18_8 z18_9 s19 m18 (fun (z40_12 : Int32) (z40_13 : Int32) => (if 131072 ≤ ((mI m18 0 33)) then some (z40_12, m18) else ck (ix (nI j) 262144) (ck (ix (nI j) 262144) (some (z40_12, (vI (vX (vY m18 14 j (lN (kE c g b))) 15 j z40_12) 0 33 ((((mI m18 0 33)) + 1)))))))) N ((-2147483648)) 0) (fun j185 => if z18_8 = 0 then j185 1 else (if z18_8 = 1 then j185 3 else (if z18_8 = 2 then j185 9 else j185 27)))))
    have hE2 : mI m2 0 33 = nI E := by
      rw [← r1]
      unfold mI
      rw [e3]
    have hR2 : RE m2 M := RE_same e3 e4 (e5 15 (by omega)) ⟨⟨E, r1, r2, r3⟩, r4⟩
    rw [e1]
    simp only [jn]
    rw [sel27 (fun s19 => f_Mo_ends_L195 N (rz c) (nI g) (nI b) (lN (kE c g b)) (nI j) (nI (hl c)) (rz c - Rl (hL c) (hl c)) s19 m2 (fun (z40_12 : Int32) (z40_13 : Int32) => (if 131072 ≤ ((mI m2 0 33)) then some (z40_12, m2) else ck (ix (nI j) 262144) (ck (ix (nI j) 262144) (some (z40_12, (vI (vX (vY m2 14 j (lN (kE c g b))) 15 j z40_12) 0 33 ((((mI m2 0 33)) + 1)))))))) N ((-2147483648)) 0) h3, tR_best hM hE (e2.rw hW) hL' h3 (by omega) hg hb e6 rfl, hE2]
    by_cases hf : 131072 ≤ E
    · exact ⟨m2, by rw [if_pos (show (131072 : Int32) ≤ nI E from nI_le (a := 131072) hf (by omega))], e2, hR2⟩
    · refine ⟨vI (vX (vY m2 14 j (lN (kE c g b))) 15 j (iz (gE M g b c))) 0 33 (nI E + 1), by rw [if_neg (show ¬ (131072 : Int32) ≤ nI E from nI_ge (b := 131072) (by omega) (by omega)), ck_t (nI_in hj (by omega)), ck_t (nI_in hj (by omega))], e2.trans ⟨fun a k hak => ?_, rfl, fun a a1 _ => ?_, fun a a1 => ?_⟩, RE_ins hj hL'.1 hg hb hE2 (by omega) hR2⟩
      · show u2 m2.1 0 33 _ a k = _
        unfold u2
        rw [if_neg hak]
      · funext i
        exact u2_a _ _ _ _ a1
      · funext i
        exact u2_a _ _ _ _ a1
end RENDW
