/-! MAKING: amounts numbered, places summed up. -/
theorem idx_d : ∀ a, a < 7 → ∀ b, b < 7 → ∀ c, c < 7 → ∀ h, h < 7 → (((nI a ||| isl (nI b) 3) ||| isl (nI c) 6) ||| isl (nI h) 9) = nI (a + 8 * b + 64 * c + 512 * h) := by decide +kernel
theorem lin_sum : ∀ s, s < 7 → ∀ a, a < 7 → a ≤ s → psu (lin s a) (s - a + 1) = tri s a := by decide +kernel
theorem tri_sum : ∀ s, s < 7 → psu (tri s) (s + 1) = tet s := by decide +kernel
theorem upF_210 : ∀ K, K < 7 → upF K ≤ 210 ∧ (upF K < 210 → K < sO (upF K)) := by decide +kernel
theorem psz_t : psu tet 7 = 210 := by decide +kernel
/-- only these rows change -/
def Fx (X : List Nat) (m m' : Mm) : Prop := m'.1 = m.1 ∧ m'.2.1 = m.2.1 ∧ m'.2.2.2 = m.2.2.2 ∧ ∀ a, a ∉ X → m'.2.2.1 a = m.2.2.1 a
def NA (n : Nat) (y : Mm) : Prop := (∀ a b c h, a + b + c + h ≤ 6 → nF a b c h < n → mX y 19 (a + 8 * b + 64 * c + 512 * h) = nI (nF a b c h)) ∧ ∀ i, i < n → mX y 20 i = nI (sO i)
section RANKSMK
variable {N : Nat} {S : St}
theorem Fx.refl {X : List Nat} {m : Mm} : Fx X m m := ⟨rfl, rfl, rfl, fun _ _ => rfl⟩
theorem Fx.trans {X : List Nat} {m m1 m2 : Mm} (h : Fx X m m1) (h' : Fx X m1 m2) : Fx X m m2 := ⟨h'.1.trans h.1, h'.2.1.trans h.2.1, h'.2.2.1.trans h.2.2.1, fun a q => (h'.2.2.2 a q).trans (h.2.2.2 a q)⟩
theorem Fx_x {X : List Nat} {m : Mm} {a k : Nat} {v : Int32} (h : a ∈ X) : Fx X m (vX m a k v) := ⟨rfl, rfl, rfl, fun b q => vX_o (fun e => q (by rw [e]; exact h))⟩
theorem Fx.x {X : List Nat} {m m' : Mm} (h : Fx X m m') {a : Nat} (ha : a ∉ X) (i : Nat) : mX m' a i = mX m a i := by unfold mX; rw [h.2.2.2 a ha]
theorem t_fillI (hN : 100000 ≤ N) {f : Nat} {v : Int32} {m : Mm} (hl : S.2.2.1 f ≤ 50000) : ∃ m', f_Arrays_fill N S f v m = some m' ∧ Fx [f] m m' := by
  unfold f_Arrays_fill
  obtain ⟨m', hI, e⟩ := loopE (fun n (y : Mm) j => f_Arrays_fill_L5 N S f v (Int32.ofNat (S.2.2.1 f)) (fun (z3_2 : Int32) (m3 : Mm) => some m3) n (nI j) y) (fun y _ => Fx [f] m y) (S.2.2.1 f) (fun y => some y) (fun n y j hj hI => by
    show ∃ y', _ ∧ f_Arrays_fill_L5 N S f v (Int32.ofNat (S.2.2.1 f)) _ (n + 1) (nI j) y = _
    refine ⟨vX y f j v, hI.trans (Fx_x (by simp)), ?_⟩
    rw [f_Arrays_fill_L5, if_neg (show ¬ Int32.ofNat (S.2.2.1 f) ≤ nI j from nI_ge hj (by omega)), ck_t (nI_in hj (by omega)), nI_clamp (by omega), nI_1]) (fun n y hI => by
    show f_Arrays_fill_L5 N S f v (Int32.ofNat (S.2.2.1 f)) _ (n + 1) (nI (S.2.2.1 f)) y = _
    rw [f_Arrays_fill_L5, if_pos (show Int32.ofNat (S.2.2.1 f) ≤ nI (S.2.2.1 f) from nI_le (Nat.le_refl _) (by omega))]) (S.2.2.1 f) N m 0 (by omega) (by omega) Fx.refl
  exact ⟨m', e, hI⟩
theorem NA_step {n a b c h : Nat} {y : Mm} (hs : a + b + c + h ≤ 6) (hn : nF a b c h = n) (hI : NA n y) : NA (n + 1) (vX (vX y 19 (a + 8 * b + 64 * c + 512 * h) (nI n)) 20 n (nI (a + b + c + h))) := by
  have hso := (nF_sO hs).1
  rw [hn] at hso
  refine ⟨fun a' b' c' h' hs' hlt => ?_, fun i hi => ?_⟩
  · rw [mX_n (by omega)]
    by_cases q : nF a' b' c' h' = n
    · obtain ⟨e1, e2, e3, e4⟩ := nF_inj hs' hs (q.trans hn.symm)
      rw [e1, e2, e3, e4, mX_s, hn]
    · rw [mX_n (fun z => q (by
        have hz := z.2
        have e1 : a' = a := by omega
        have e2 : b' = b := by omega
        have e3 : c' = c := by omega
        have e4 : h' = h := by omega
        rw [e1, e2, e3, e4]; exact hn))]
      exact hI.1 a' b' c' h' hs' (by omega)
  · by_cases q : i = n
    · rw [q, mX_s, hso]
    · rw [mX_n (by omega), mX_n (by omega)]
      exact hI.2 i (by omega)
theorem na_43 (hN : 100000 ≤ N) (l0 : S.2.2.1 19 = 4096) (l1 : S.2.2.1 20 = 210) {s a b : Nat} (hs : s < 7) (hab : a + b ≤ s) {m : Mm} (hI : NA (psu tet s + (psu (tri s) a + psu (lin s a) b)) m) (K : Int32 → Int32 → Mm → Option Mm) : ∃ m', f_Ranks_numberAmounts_L43 N S 19 20 21 (nI s) (nI a) (nI b) K N (nI (psu tet s + (psu (tri s) a + psu (lin s a) b))) (nI 0) m = K (nI (psu tet s + (psu (tri s) a + psu (lin s a) (b + 1)))) (nI (s - a - b + 1)) m' ∧ NA (psu tet s + (psu (tri s) a + psu (lin s a) (b + 1))) m' ∧ Fx [19, 20] m m' := by
  have el : psu tet s + (psu (tri s) a + psu (lin s a) (b + 1)) = psu tet s + (psu (tri s) a + psu (lin s a) b) + (s - a - b + 1) := by
    show psu tet s + (psu (tri s) a + (psu (lin s a) b + lin s a b)) = _
    unfold lin
    omega
  rw [el]
  generalize hn0 : psu tet s + (psu (tri s) a + psu (lin s a) b) = n0 at hI ⊢
  obtain ⟨m', ⟨i1, i2⟩, e⟩ := loopE (fun f (y : Mm) c => f_Ranks_numberAmounts_L43 N S 19 20 21 (nI s) (nI a) (nI b) K f (nI (n0 + c)) (nI c) y) (fun y c => NA (n0 + c) y ∧ Fx [19, 20] m y) (s - a - b + 1) (fun y => K (nI (n0 + (s - a - b + 1))) (nI (s - a - b + 1)) y) (fun f y c hc hJ => by
    show ∃ y', _ ∧ f_Ranks_numberAmounts_L43 N S 19 20 21 (nI s) (nI a) (nI b) K (f + 1) (nI (n0 + c)) (nI c) y = _
    obtain ⟨h, hh⟩ : ∃ h, a + b + c + h = s := ⟨s - a - b - c, by omega⟩
    have hnF : nF a b c h = n0 + c := by
      unfold nF
      rw [hh, ← hn0]
      omega
    have h210 := (nF_sO (a := a) (b := b) (c := c) (h := h) (by omega)).2
    have st := NA_step (show a + b + c + h ≤ 6 by omega) hnF hJ.1
    have hi0 : ix (nI (a + 8 * b + 64 * c + 512 * h)) (S.2.2.1 19) := by rw [l0]; exact nI_in (by omega) (by omega)
    have hi1 : ix (nI (n0 + c)) (S.2.2.1 20) := by rw [l1]; exact nI_in (by omega) (by omega)
    refine ⟨_, ⟨st, (hJ.2.trans (Fx_x (by simp))).trans (Fx_x (by simp))⟩, ?_⟩
    rw [f_Ranks_numberAmounts_L43, nI_add, nI_add, if_neg (nI_nlt (by omega) (by omega)), pk_sub (by omega), pk_sub (by omega), pk_sub (by omega), show s - a - b - c = h by omega, idx_d a (by omega) b (by omega) c (by omega) h (by omega)]
    simp only [ck_t hi0, ck_t hi1, nI_clamp (show a + 8 * b + 64 * c + 512 * h < 2 ^ 31 by omega), nI_clamp (show n0 + c < 2 ^ 31 by omega)]
    rw [nI_1, nI_1, hh]
    rfl) (fun f y hJ => by
    show f_Ranks_numberAmounts_L43 N S 19 20 21 (nI s) (nI a) (nI b) K (f + 1) (nI (n0 + (s - a - b + 1))) (nI (s - a - b + 1)) y = _
    rw [f_Ranks_numberAmounts_L43, nI_add, nI_add, if_pos (nI_lt (by omega) (by omega))]) (s - a - b + 1) N m 0 (by omega) (by omega) ⟨hI, Fx.refl⟩
  exact ⟨m', e, i1, i2⟩
theorem na_30 (hN : 100000 ≤ N) (l0 : S.2.2.1 19 = 4096) (l1 : S.2.2.1 20 = 210) {s a : Nat} (hs : s < 7) (has : a ≤ s) {m : Mm} (hI : NA (psu tet s + psu (tri s) a) m) (K : Int32 → Int32 → Mm → Option Mm) : ∃ m', f_Ranks_numberAmounts_L30 N S 19 20 21 (nI s) (nI a) K N (nI (psu tet s + psu (tri s) a)) (nI 0) m = K (nI (psu tet s + psu (tri s) (a + 1))) (nI (s - a + 1)) m' ∧ NA (psu tet s + psu (tri s) (a + 1)) m' ∧ Fx [19, 20] m m' := by
  have el : psu tet s + psu (tri s) (a + 1) = psu tet s + (psu (tri s) a + psu (lin s a) (s - a + 1)) := by
    rw [lin_sum s hs a (by omega) has]
    rfl
  have e0 : psu tet s + psu (tri s) a = psu tet s + (psu (tri s) a + psu (lin s a) 0) := rfl
  rw [el, e0]
  rw [e0] at hI
  obtain ⟨m', ⟨i1, i2⟩, e⟩ := loopE (fun f (y : Mm) b => f_Ranks_numberAmounts_L30 N S 19 20 21 (nI s) (nI a) K f (nI (psu tet s + (psu (tri s) a + psu (lin s a) b))) (nI b) y) (fun y b => NA (psu tet s + (psu (tri s) a + psu (lin s a) b)) y ∧ Fx [19, 20] m y) (s - a + 1) (fun y => K (nI (psu tet s + (psu (tri s) a + psu (lin s a) (s - a + 1)))) (nI (s - a + 1)) y) (fun f y b hb hJ => by
    show ∃ y', _ ∧ f_Ranks_numberAmounts_L30 N S 19 20 21 (nI s) (nI a) K (f + 1) (nI (psu tet s + (psu (tri s) a + psu (lin s a) b))) (nI b) y = _
    obtain ⟨y', k1, k2, k3⟩ := na_43 (N := N) hN l0 l1 hs (show a + b ≤ s by omega) hJ.1 (fun (z8_3 : Int32) (z8_7 : Int32) (m8 : Mm) => f_Ranks_numberAmounts_L30 N S 19 20 21 (nI s) (nI a) K f z8_3 ((nI b + 1)) m8)
    refine ⟨y', ⟨k2, hJ.2.trans k3⟩, ?_⟩
    rw [f_Ranks_numberAmounts_L30, nI_add, if_neg (nI_nlt (by omega) (by omega))]
    refine Eq.trans k1 ?_
    show f_Ranks_numberAmounts_L30 N S 19 20 21 (nI s) (nI a) K f _ (nI b + 1) y' = _
    rw [nI_1]) (fun f y hJ => by
    show f_Ranks_numberAmounts_L30 N S 19 20 21 (nI s) (nI a) K (f + 1) _ (nI (s - a + 1)) y = _
    rw [f_Ranks_numberAmounts_L30, nI_add, if_pos (nI_lt (by omega) (by omega))]) (s - a + 1) N m 0 (by omega) (by omega) ⟨hI, Fx.refl⟩
  exact ⟨m', e, i1, i2⟩
theorem na_20 (hN : 100000 ≤ N) (l0 : S.2.2.1 19 = 4096) (l1 : S.2.2.1 20 = 210) {s : Nat} (hs : s < 7) {m : Mm} (hI : NA (psu tet s) m) (K : Int32 → Int32 → Mm → Option Mm) : ∃ m', f_Ranks_numberAmounts_L20 N S 19 20 21 (nI s) K N (nI (psu tet s)) (nI 0) m = K (nI (psu tet (s + 1))) (nI (s + 1)) m' ∧ NA (psu tet (s + 1)) m' ∧ Fx [19, 20] m m' := by
  have el : psu tet (s + 1) = psu tet s + psu (tri s) (s + 1) := by
    rw [tri_sum s hs]
    rfl
  have e0 : psu tet s = psu tet s + psu (tri s) 0 := rfl
  rw [el]
  obtain ⟨m', ⟨i1, i2⟩, e⟩ := loopE (fun f (y : Mm) a => f_Ranks_numberAmounts_L20 N S 19 20 21 (nI s) K f (nI (psu tet s + psu (tri s) a)) (nI a) y) (fun y a => NA (psu tet s + psu (tri s) a) y ∧ Fx [19, 20] m y) (s + 1) (fun y => K (nI (psu tet s + psu (tri s) (s + 1))) (nI (s + 1)) y) (fun f y a ha hJ => by
    show ∃ y', _ ∧ f_Ranks_numberAmounts_L20 N S 19 20 21 (nI s) K (f + 1) (nI (psu tet s + psu (tri s) a)) (nI a) y = _
    obtain ⟨y', k1, k2, k3⟩ := na_30 (N := N) hN l0 l1 hs (show a ≤ s by omega) hJ.1 (fun (z13_3 : Int32) (z13_6 : Int32) (m13 : Mm) => f_Ranks_numberAmounts_L20 N S 19 20 21 (nI s) K f z13_3 ((nI a + 1)) m13)
    refine ⟨y', ⟨k2, hJ.2.trans k3⟩, ?_⟩
    rw [f_Ranks_numberAmounts_L20, if_neg (nI_nlt (by omega) (by omega))]
    refine Eq.trans k1 ?_
    show f_Ranks_numberAmounts_L20 N S 19 20 21 (nI s) K f _ (nI a + 1) y' = _
    rw [nI_1]) (fun f y hJ => by
    show f_Ranks_numberAmounts_L20 N S 19 20 21 (nI s) K (f + 1) _ (nI (s + 1)) y = _
    rw [f_Ranks_numberAmounts_L20, if_pos (nI_lt (by omega) (by omega))]) (s + 1) N m 0 (by omega) (by omega) ⟨hI, Fx.refl⟩
  exact ⟨m', e, i1, i2⟩
theorem t_numberAmounts (hN : 100000 ≤ N) (l0 : S.2.2.1 19 = 4096) (l1 : S.2.2.1 20 = 210) (l2 : S.2.2.1 21 = 7) {m : Mm} : ∃ m', f_Ranks_numberAmounts N S 19 20 21 m = some m' ∧ Fx [19, 20, 21] m m' ∧ NA 210 m' ∧ ∀ K, K < 7 → mX m' 21 K = nI (upF K) := by
  obtain ⟨m1, f1, f2⟩ := t_fillI (N := N) (S := S) (f := 19) (v := -1) (m := m) hN (by rw [l0]; omega)
  have f3 : Fx [19, 20, 21] m m1 := ⟨f2.1, f2.2.1, f2.2.2.1, fun a ha => f2.2.2.2 a (fun h => ha (by simp at h ⊢; exact Or.inl h))⟩
  have wid : ∀ {y y' : Mm}, Fx [19, 20] y y' → Fx [19, 20, 21] y y' := fun h => ⟨h.1, h.2.1, h.2.2.1, fun a ha => h.2.2.2 a (fun q => ha (by simp at q ⊢; omega))⟩
  obtain ⟨m', ⟨i1, i2, i3⟩, e⟩ := loopE (fun f (y : Mm) s => f_Ranks_numberAmounts_L10 N S 19 20 21 (fun (z48_3 : Int32) (z48_4 : Int32) (m48 : Mm) => some m48) f (nI (psu tet s)) (nI s) y) (fun y s => NA (psu tet s) y ∧ Fx [19, 20, 21] m y ∧ ∀ K, K < s → mX y 21 K = nI (upF K)) 7 (fun y => some y) (fun f y s hs hJ => by
    show ∃ y', _ ∧ f_Ranks_numberAmounts_L10 N S 19 20 21 _ (f + 1) (nI (psu tet s)) (nI s) y = _
    obtain ⟨i1, i2, i3⟩ := hJ
    obtain ⟨y', k1, k2, k3⟩ := na_20 (N := N) hN l0 l1 hs i1 (fun (z24_3 : Int32) (z24_5 : Int32) (m24 : Mm) => ck (ix (nI s) (S.2.2.1 21)) (f_Ranks_numberAmounts_L10 N S 19 20 21 (fun (z48_3 : Int32) (z48_4 : Int32) (m48 : Mm) => some m48) f z24_3 ((nI s + 1)) ((vX m24 21 (nI s).toNatClampNeg z24_3))))
    have hix : ix (nI s) (S.2.2.1 21) := by rw [l2]; exact nI_in hs (by omega)
    refine ⟨vX y' 21 s (nI (psu tet (s + 1))), ⟨⟨fun a b c h h1 h2 => ?_, fun i hi => ?_⟩, (i2.trans (wid k3)).trans (Fx_x (by simp)), fun K hK => ?_⟩, ?_⟩
    · rw [mX_n (by omega)]; exact k2.1 a b c h h1 h2
    · rw [mX_n (by omega)]; exact k2.2 i hi
    · by_cases q : K = s
      · rw [q, mX_s]; rfl
      · rw [mX_n (by omega), k3.x (by simp)]; exact i3 K (by omega)
    · rw [f_Ranks_numberAmounts_L10, if_neg (show ¬ (6 : Int32) < nI s from nI_nlt (a := 6) (by omega) (by omega))]
      refine Eq.trans k1 ?_
      simp only [ck_t hix, nI_clamp (show s < 2 ^ 31 by omega)]
      rw [nI_1]) (fun f y hJ => by
    show f_Ranks_numberAmounts_L10 N S 19 20 21 _ (f + 1) _ (nI 7) y = _
    rw [f_Ranks_numberAmounts_L10, if_pos (show (6 : Int32) < nI 7 by decide)]) 7 N m1 0 (by omega) (by omega) ⟨⟨fun a b c h _ hl => by have : nF a b c h < 0 := hl; omega, fun i hi => by have : i < 0 := hi; omega⟩, f3, fun K hK => by omega⟩
  rw [psz_t] at i1
  refine ⟨m', ?_, i2, i1, i3⟩
  unfold f_Ranks_numberAmounts
  rw [f1, b3_s]
  exact e
end RANKSMK
