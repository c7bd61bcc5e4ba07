/-! THE RANKS laid out for a matter. -/
theorem or_d : ∀ i, i < 4 → ∀ a, a < 8 → a < 2 ^ i → (nI a ||| nI (2 ^ i)) = nI (a + 2 ^ i) := by decide +kernel
theorem or_0 : ∀ a, a < 16 → (nI a ||| 0) = nI a := by decide +kernel
theorem wOk_d0 : ∀ H, H < 4 → ∀ L, L < 8 → L < 2 ^ H → ∀ w, w < 8 → (decide ((nI w &&& nI (2 ^ H - 1 - L)) = nI (2 ^ H - 1 - L)) && !(decide (isl 1 (nI H) ≤ nI w))) = wOk H L w := by decide +kernel
theorem wOk_d (H : Nat) (hH : H < 4) (L : Nat) (h8 : L < 8) (hl : L < 2 ^ H) (w : Nat) (hw : w < 8) : (((nI w &&& nI (2 ^ H - 1 - L)) = nI (2 ^ H - 1 - L)) ∧ ¬ (isl 1 (nI H) ≤ nI w)) ↔ wOk H L w = true := by
  rw [← wOk_d0 H hH L h8 hl w hw, Bool.and_eq_true, decide_eq_true_eq, Bool.not_eq_true', decide_eq_false_iff_not]
section LAYOUT
variable {N : Nat} {S : St} {M : Mt}
theorem t_mbr (hM : qOk M) (hN : 1000 ≤ N) {m : Mm} {x d : Nat} (hW : CW m x M) (hd : d < qD M) : f_Will_mayBringThing N S x (nI d) m = some (tf (mbr M d)) := by
  have hA := hM.2.2.2.2.2.2.1 d hd
  have key : ∀ r a fuel, a + r = qA M d → r < fuel → (∀ i, i < a → ¬ qK M d i = 0) → f_Will_mayBringThing_L2 N S x (nI d) m (fun (z5_2 : Int32) => some 0) fuel (nI a) = some (tf (mbr M d)) := by
    intro r
    induction r with
    | zero =>
      intro a fuel hr hf hn
      obtain ⟨f, rfl⟩ : ∃ q, fuel = q + 1 := ⟨fuel - 1, by omega⟩
      have e : mbr M d = false := by
        unfold mbr
        rw [List.any_eq_false]
        intro i hi
        rw [decide_eq_true_eq]
        exact hn i (by have := List.mem_range.mp hi; omega)
      rw [f_Will_mayBringThing_L2, tW_alts hM hW hd, b1_s, if_pos (nI_le (by omega) (by omega)), e]
      rfl
    | succ r ih =>
      intro a fuel hr hf hn
      obtain ⟨f, rfl⟩ : ∃ q, fuel = q + 1 := ⟨fuel - 1, by omega⟩
      have hk2 := (hM.2.2.2.2.2.2.2 d a hd (by omega)).2.1
      rw [f_Will_mayBringThing_L2, tW_alts hM hW hd, b1_s, if_neg (nI_ge (by omega) (by omega)), tW_kind hM hW hd (by omega), b1_s, nI_1]
      by_cases q : qK M d a = 0
      · have e : mbr M d = true := by
          unfold mbr
          rw [List.any_eq_true]
          exact ⟨a, List.mem_range.mpr (by omega), decide_eq_true q⟩
        rw [if_pos ((nI_k0 hk2).mpr q), e]
        rfl
      · rw [if_neg (fun w => q ((nI_k0 hk2).mp w))]
        exact ih (a + 1) f (by omega) (by omega) (fun i hi => by
          by_cases z : i = a
          · rw [z]; exact q
          · exact hn i (by omega))
  unfold f_Will_mayBringThing
  exact key (qA M d) 0 N (by omega) (by omega) (fun i hi => by omega)
theorem t_maskOf (hM : qOk M) (hN : 1000 ≤ N) {m : Mm} {w : Nat} (hW : CW m 10 M) (hw : w < 8) : f_Ranks_maskOf N S 10 (nI w) m = some (nI (lmF (qH M) (qL M) w)) := by
  have hH := hM.1
  have key : ∀ r j fuel a i, j + r = qH M → r < fuel → a < 2 ^ i → i ≤ j → f_Ranks_maskOf_L7 N S 10 (nI w) m (fun (z6_2 : Int32) (z6_3 : Int32) (z6_4 : Int32) => some z6_2) fuel (nI a) (nI (2 ^ i)) (nI j) = some (nI (fo (fun (q : Nat × Nat) h => if lt1 (qL M) h then (if w / 2 ^ h % 2 = 1 then q.1 + q.2 else q.1, 2 * q.2) else q) (a, 2 ^ i) j r).1) := by
    intro r
    induction r with
    | zero =>
      intro j fuel a i hr hf ha hi
      obtain ⟨f, rfl⟩ : ∃ q, fuel = q + 1 := ⟨fuel - 1, by omega⟩
      rw [f_Ranks_maskOf_L7, hW.1, if_pos (nI_le (by omega) (by omega))]
      rfl
    | succ r ih =>
      intro j fuel a i hr hf ha hi
      obtain ⟨f, rfl⟩ : ∃ q, fuel = q + 1 := ⟨fuel - 1, by omega⟩
      have h2 : 2 ^ i ≤ 2 ^ 3 := Nat.pow_le_pow_right (by decide) (by omega)
      have h8 : (2 : Nat) ^ 3 = 8 := rfl
      rw [f_Ranks_maskOf_L7, hW.1, if_neg (nI_ge (by omega) (by omega)), late_of hW hM (by omega), b1_s, nI_1]
      simp only [jn]
      show _ = some (nI (fo _ (if lt1 (qL M) j then (if w / 2 ^ j % 2 = 1 then a + 2 ^ i else a, 2 * 2 ^ i) else (a, 2 ^ i)) (j + 1) r).1)
      cases hl : lt1 (qL M) j with
      | false =>
        rw [if_pos tf_f, if_neg (by decide)]
        exact ih (j + 1) f a i (by omega) (by omega) ha (by omega)
      | true =>
        rw [if_neg tft, if_pos rfl, isr_n (by omega) (by omega), nI_a1]
        have e2 : isl (nI (2 ^ i)) 1 = nI (2 ^ (i + 1)) := by
          have := isl_n (n := 2 ^ i) (k := 1) (by omega) (by omega)
          rw [Nat.pow_succ]
          exact this
        have e3 : 2 * 2 ^ i = 2 ^ (i + 1) := by rw [Nat.pow_succ]; omega
        rw [e2, e3]
        by_cases q : w / 2 ^ j % 2 = 1
        · rw [q, if_pos (show nI 1 = 1 from rfl), if_pos rfl, or_d i (by omega) a (by omega) ha]
          exact ih (j + 1) f (a + 2 ^ i) (i + 1) (by omega) (by omega) (by rw [Nat.pow_succ]; omega) (by omega)
        · rw [if_neg q, show w / 2 ^ j % 2 = 0 by omega, if_neg (show ¬ nI 0 = 1 by decide), or_0 a (by omega)]
          exact ih (j + 1) f a (i + 1) (by omega) (by omega) (by rw [Nat.pow_succ]; omega) (by omega)
  unfold f_Ranks_maskOf
  exact key (qH M) 0 N 0 0 (by omega) (by omega) (by decide) (by omega)
def FLy (m m' : Mm) : Prop := (∀ a k, ¬ (a = 18 ∧ (k = 10 ∨ k = 11)) → m'.1 a k = m.1 a k) ∧ m'.2.1 = m.2.1 ∧ (∀ a, ¬ (25 ≤ a ∧ a ≤ 28) → m'.2.2.1 a = m.2.2.1 a) ∧ m'.2.2.2 = m.2.2.2
theorem FLy.refl {m : Mm} : FLy m m := ⟨fun _ _ _ => rfl, rfl, fun _ _ => rfl, rfl⟩
theorem FLy.trans {m m1 m2 : Mm} (h : FLy m m1) (h' : FLy m1 m2) : FLy m m2 := ⟨fun a k q => (h'.1 a k q).trans (h.1 a k q), h'.2.1.trans h.2.1, fun a q => (h'.2.2.1 a q).trans (h.2.2.1 a q), h'.2.2.2.trans h.2.2.2⟩
theorem FLy_i {m : Mm} {k : Nat} {v : Int32} (h : k = 10 ∨ k = 11) : FLy m (vI m 18 k v) := ⟨fun a j q => mI_n (m := m) (fun w => q ⟨w.1, by omega⟩), rfl, fun _ _ => rfl, rfl⟩
theorem FLy_x {m : Mm} {a k : Nat} {v : Int32} (h : 25 ≤ a ∧ a ≤ 28) : FLy m (vX m a k v) := ⟨fun _ _ _ => rfl, rfl, fun b q => vX_o (by omega), rfl⟩
theorem FLy.cw {m m' : Mm} (h : FLy m m') (hW : CW m 10 M) : CW m' 10 M := by
  have e10 : ∀ k, mI m' 10 k = mI m 10 k := fun k => h.1 10 k (by omega)
  have eX : ∀ a k, a < 20 → mX m' a k = mX m a k := fun a k ha => by unfold mX; rw [h.2.2.1 a (by omega)]
  unfold CW at *
  simp only [e10, eX (10 + 2) _ (by omega), eX (10 + 3) _ (by omega), eX (10 + 4) _ (by omega), eX (10 + 5) _ (by omega), eX (10 + 6) _ (by omega)]
  exact hW
def mkG (H L : Nat) (a w : Nat) : Nat := if wOk H L w then (if a < lmF H L w + 1 then lmF H L w + 1 else a) else a
theorem lay20 (hM : qOk M) (hN : 1000 ≤ N) {m : Mm} (hW : CW m 10 M) (h10 : mI m 18 10 = nI 1) (K : Int32 → Mm → Option Mm) : ∃ m', f_Ranks_layOut_L20 N S 10 K N (nI 0) m = K (nI 8) m' ∧ FLy m m' ∧ mI m' 18 11 = mI m 18 11 ∧ mI m' 18 10 = nI (mks M) ∧ (∀ w, w < 8 → mX m' 27 w = nI (lmF (qH M) (qL M) w)) ∧ (∀ w, w < 8 → wOk (qH M) (qL M) w = true → mX m' 28 (lmF (qH M) (qL M) w) = nI w) := by
  have hH := hM.1
  have h8 := qL8 hM
  have hb : 2 ^ qH M - 1 - qL M < 8 := by
    have : 2 ^ qH M ≤ 2 ^ 3 := Nat.pow_le_pow_right (by decide) hH
    have : (2 : Nat) ^ 3 = 8 := rfl
    omega
  obtain ⟨m', ⟨i1, i2, i3, i4, i5, i6⟩, e⟩ := loopE (fun f (y : Mm) j => f_Ranks_layOut_L20 N S 10 K f (nI j) y) (fun y j => FLy m y ∧ mI y 18 11 = mI m 18 11 ∧ mI y 18 10 = nI (fo (mkG (qH M) (qL M)) 1 0 j) ∧ fo (mkG (qH M) (qL M)) 1 0 j ≤ 8 ∧ (∀ w, w < j → mX y 27 w = nI (lmF (qH M) (qL M) w)) ∧ ∀ w, w < j → wOk (qH M) (qL M) w = true → mX y 28 (lmF (qH M) (qL M) w) = nI w) 8 (fun y => K (nI 8) y) (fun f y j hj hI => by
    show ∃ y', _ ∧ f_Ranks_layOut_L20 N S 10 K (f + 1) (nI j) y = _
    obtain ⟨i1, i2, i3, i4, i5, i6⟩ := hI
    have hWy := i1.cw hW
    have hix : ix (nI j) 8 := nI_in hj (by omega)
    have hl8 := lmF_8 (qH M) (by omega) (qL M) h8 j hj
    have hix2 : ix (nI (lmF (qH M) (qL M) j)) 8 := nI_in hl8 (by omega)
    have hear : f_Will_early N S 10 (vX y 27 j (nI (lmF (qH M) (qL M) j))) = some (nI (2 ^ qH M - 1 - qL M)) := tW_early ((FLy_x (m := y) (a := 27) (k := j) (v := nI (lmF (qH M) (qL M) j)) (by omega)).cw hWy) hM
    have e27 : mX (vX y 27 j (nI (lmF (qH M) (qL M) j))) 27 j = nI (lmF (qH M) (qL M) j) := mX_s
    rw [f_Ranks_layOut_L20, if_neg (show ¬ (8 : Int32) ≤ nI j from nI_ge (b := 8) hj (by omega)), t_maskOf hM hN hWy hj, b1_s]
    simp only [ck_t hix, nI_clamp (show j < 2 ^ 31 by omega)]
    rw [hear, b1_s, b1_s, e27]
    simp only [ck_t hix2, nI_clamp (show lmF (qH M) (qL M) j < 2 ^ 31 by omega)]
    rw [hWy.1, i3, nI_1, nI_1]
    have hd := wOk_d (qH M) (by omega) (qL M) h8 hM.2.2.2.2.1 j hj
    have e0 : fo (mkG (qH M) (qL M)) 1 0 (j + 1) = mkG (qH M) (qL M) (fo (mkG (qH M) (qL M)) 1 0 j) j := by rw [fo_s, Nat.zero_add]
    have no : wOk (qH M) (qL M) j = false → ∃ y', (FLy m y' ∧ mI y' 18 11 = mI m 18 11 ∧ mI y' 18 10 = nI (fo (mkG (qH M) (qL M)) 1 0 (j + 1)) ∧ fo (mkG (qH M) (qL M)) 1 0 (j + 1) ≤ 8 ∧ (∀ w, w < j + 1 → mX y' 27 w = nI (lmF (qH M) (qL M) w)) ∧ ∀ w, w < j + 1 → wOk (qH M) (qL M) w = true → mX y' 28 (lmF (qH M) (qL M) w) = nI w) ∧ f_Ranks_layOut_L20 N S 10 K f (nI (j + 1)) (vX y 27 j (nI (lmF (qH M) (qL M) j))) = f_Ranks_layOut_L20 N S 10 K f (nI (j + 1)) y' := by
      intro hf
      have e1 : fo (mkG (qH M) (qL M)) 1 0 (j + 1) = fo (mkG (qH M) (qL M)) 1 0 j := by
        rw [e0]
        unfold mkG
        rw [hf]
        rfl
      rw [e1]
      refine ⟨_, ⟨i1.trans (FLy_x (by omega)), i2, i3, i4, fun w hw => ?_, fun w hw ho => ?_⟩, rfl⟩
      · by_cases q : w = j
        · rw [q, mX_s]
        · rw [mX_n (by omega)]; exact i5 w (by omega)
      · have : w ≠ j := fun q => by rw [q, hf] at ho; cases ho
        rw [mX_n (by omega)]
        exact i6 w (by omega) ho
    by_cases q1 : (nI j &&& nI (2 ^ qH M - 1 - qL M)) = nI (2 ^ qH M - 1 - qL M)
    · rw [if_pos q1]
      by_cases q2 : isl 1 (nI (qH M)) ≤ nI j
      · rw [if_pos q2]
        exact no (by
          cases ho : wOk (qH M) (qL M) j with
          | false => rfl
          | true => exact absurd q2 (hd.mpr ho).2)
      · rw [if_neg q2]
        have ho := hd.mp ⟨q1, q2⟩
        have e1 : fo (mkG (qH M) (qL M)) 1 0 (j + 1) = if fo (mkG (qH M) (qL M)) 1 0 j < lmF (qH M) (qL M) j + 1 then lmF (qH M) (qL M) j + 1 else fo (mkG (qH M) (qL M)) 1 0 j := by
          rw [e0]
          unfold mkG
          rw [ho]
          rfl
        have em : (if nI (fo (mkG (qH M) (qL M)) 1 0 j) < nI (lmF (qH M) (qL M) j + 1) then nI (lmF (qH M) (qL M) j + 1) else nI (fo (mkG (qH M) (qL M)) 1 0 j)) = nI (fo (mkG (qH M) (qL M)) 1 0 (j + 1)) := by
          rw [e1, nI_max (by omega) (by omega)]
        rw [em]
        refine ⟨_, ⟨((i1.trans (FLy_x (by omega))).trans (FLy_x (by omega))).trans (FLy_i (by omega)), ?_, mI_s, ?_, fun w hw => ?_, fun w hw ho' => ?_⟩, rfl⟩
        · rw [mI_n (by omega)]; exact i2
        · rw [e1]; split <;> omega
        · show mX (vX (vX y 27 j _) 28 _ _) 27 w = _
          rw [mX_n (by omega)]
          by_cases q : w = j
          · rw [q, mX_s]
          · rw [mX_n (by omega)]; exact i5 w (by omega)
        · show mX (vX (vX y 27 j _) 28 _ _) 28 (lmF (qH M) (qL M) w) = _
          by_cases q : w = j
          · rw [q, mX_s]
          · rw [mX_n (fun z => q (lmF_inj (qH M) (by omega) (qL M) h8 w (by omega) j hj ho' ho z.2)), mX_n (by omega)]
            exact i6 w (by omega) ho'
    · rw [if_neg q1]
      exact no (by
        cases ho : wOk (qH M) (qL M) j with
        | false => rfl
        | true => exact absurd (hd.mpr ho).1 q1)) (fun f y hI => by
    show f_Ranks_layOut_L20 N S 10 K (f + 1) (nI 8) y = _
    rw [f_Ranks_layOut_L20, if_pos (show (8 : Int32) ≤ nI 8 by decide)]) 8 N m 0 (by omega) (by omega) ⟨FLy.refl, rfl, h10, (show 1 ≤ 8 by omega), fun w hw => by omega, fun w hw => by omega⟩
  exact ⟨m', e, i1, i2, i3, i5, i6⟩
theorem lay104 (hM : qOk M) (hN : 1000 ≤ N) {m : Mm} (hW : CW m 10 M) (hK : ∀ B, B < 7 → mX m 24 B = nI (szF B)) (h11 : mI m 18 11 = nI (qD M)) (K : Int32 → Int32 → Int32 → Mm → Option Mm) : ∃ m', f_Ranks_layOut_L104 N S 10 K N (nI 0) (nI 0) (nI 0) m = K (nI (lim M (qD M + 1))) (nI (sta M (qD M + 1))) (nI (qD M + 1)) m' ∧ FLy m m' ∧ m'.1 = m.1 ∧ (∀ a, a ≠ 25 → a ≠ 26 → m'.2.2.1 a = m.2.2.1 a) ∧ (∀ d, d ≤ qD M → mX m' 25 d = nI (lim M d) ∧ mX m' 26 d = nI (sta M d)) := by
  have hD := hM.2.1
  obtain ⟨m', ⟨i1, i2, i3, i4⟩, e⟩ := loopE (fun f (y : Mm) j => f_Ranks_layOut_L104 N S 10 K f (nI (lim M j)) (nI (sta M j)) (nI j) y) (fun y j => FLy m y ∧ y.1 = m.1 ∧ (∀ a, a ≠ 25 → a ≠ 26 → y.2.2.1 a = m.2.2.1 a) ∧ ∀ d, d < j → mX y 25 d = nI (lim M d) ∧ mX y 26 d = nI (sta M d)) (qD M + 1) (fun y => K (nI (lim M (qD M + 1))) (nI (sta M (qD M + 1))) (nI (qD M + 1)) y) (fun f y j hj hI => by
    show ∃ y', _ ∧ f_Ranks_layOut_L104 N S 10 K (f + 1) (nI (lim M j)) (nI (sta M j)) (nI j) y = _
    obtain ⟨i1, i2, i3, i4⟩ := hI
    have e11 : mI y 18 11 = nI (qD M) := by unfold mI; rw [i2]; exact h11
    have hl6 := lim_le M j
    have hix7 : ix (nI j) 7 := nI_in (by omega) (by omega)
    have hix8 : ix (nI j) 8 := nI_in (by omega) (by omega)
    have hixl : ix (nI (lim M j)) 7 := nI_in (by omega) (by omega)
    have e24 : mX y 24 (lim M j) = nI (szF (lim M j)) := by unfold mX; rw [i3 24 (by omega) (by omega)]; exact hK _ (by omega)
    have es : nI (sta M j) + nI (szF (lim M j)) = nI (sta M (j + 1)) := by rw [nI_add]; rfl
    have e24' : mX (vX (vX y 25 j (nI (lim M j))) 26 j (nI (sta M j))) 24 (lim M j) = nI (szF (lim M j)) := by rw [mX_n (by omega), mX_n (by omega)]; exact e24
    have inv : FLy m (vX (vX y 25 j (nI (lim M j))) 26 j (nI (sta M j))) ∧ (vX (vX y 25 j (nI (lim M j))) 26 j (nI (sta M j))).1 = m.1 ∧ (∀ a, a ≠ 25 → a ≠ 26 → (vX (vX y 25 j (nI (lim M j))) 26 j (nI (sta M j))).2.2.1 a = m.2.2.1 a) ∧ ∀ d, d < j + 1 → mX (vX (vX y 25 j (nI (lim M j))) 26 j (nI (sta M j))) 25 d = nI (lim M d) ∧ mX (vX (vX y 25 j (nI (lim M j))) 26 j (nI (sta M j))) 26 d = nI (sta M d) := by
      refine ⟨(i1.trans (FLy_x (by omega))).trans (FLy_x (by omega)), i2, fun a h1 h2 => ?_, fun d hd => ?_⟩
      · rw [vX_o h2, vX_o h1]; exact i3 a h1 h2
      · by_cases q : d = j
        · rw [q, mX_s, mX_n (by omega), mX_s]
          exact ⟨rfl, rfl⟩
        · rw [mX_n (by omega), mX_n (by omega), mX_n (by omega), mX_n (by omega)]
          exact i4 d (by omega)
    rw [f_Ranks_layOut_L104, e11, if_neg (nI_nlt (by omega) (by omega))]
    simp only [ck_t hix7, ck_t hix8, ck_t hixl, nI_clamp (show j < 2 ^ 31 by omega), nI_clamp (show lim M j < 2 ^ 31 by omega)]
    rw [e24, es, nI_1]
    by_cases q : qD M ≤ j
    · rw [if_pos (nI_le q (by omega))]
      refine ⟨_, inv, ?_⟩
      have : lim M (j + 1) = lim M j := by rw [lim, if_neg (fun w => by omega)]
      show _ = f_Ranks_layOut_L104 N S 10 K f (nI (lim M (j + 1))) (nI (sta M (j + 1))) (nI (j + 1)) _
      rw [this]
    · have hWy := inv.1.cw hW
      rw [if_neg (nI_ge (by omega) (by omega)), t_mbr hM hN hWy (by omega), b1_s]
      cases hb : mbr M j with
      | false =>
        rw [if_pos tf_f]
        refine ⟨_, inv, ?_⟩
        have : lim M (j + 1) = lim M j := by rw [lim, if_neg (fun w => by rw [hb] at w; exact absurd w.2.1 (by decide))]
        show _ = f_Ranks_layOut_L104 N S 10 K f (nI (lim M (j + 1))) (nI (sta M (j + 1))) (nI (j + 1)) _
        rw [this]
      | true =>
        rw [if_neg tft]
        by_cases q6 : 6 ≤ lim M j
        · rw [if_pos (show (6 : Int32) ≤ nI (lim M j) from nI_le (a := 6) q6 (by omega))]
          refine ⟨_, inv, ?_⟩
          have : lim M (j + 1) = lim M j := by rw [lim, if_neg (fun w => by omega)]
          show _ = f_Ranks_layOut_L104 N S 10 K f (nI (lim M (j + 1))) (nI (sta M (j + 1))) (nI (j + 1)) _
          rw [this]
        · rw [if_neg (show ¬ (6 : Int32) ≤ nI (lim M j) from nI_ge (b := 6) (by omega) (by omega)), nI_1]
          refine ⟨_, inv, ?_⟩
          have : lim M (j + 1) = lim M j + 1 := by rw [lim, if_pos ⟨by omega, hb, by omega⟩]
          show _ = f_Ranks_layOut_L104 N S 10 K f (nI (lim M (j + 1))) (nI (sta M (j + 1))) (nI (j + 1)) _
          rw [this]) (fun f y hI => by
    show f_Ranks_layOut_L104 N S 10 K (f + 1) (nI (lim M (qD M + 1))) (nI (sta M (qD M + 1))) (nI (qD M + 1)) y = _
    have e11 : mI y 18 11 = nI (qD M) := by unfold mI; rw [hI.2.1]; exact h11
    rw [f_Ranks_layOut_L104, e11, if_pos (nI_lt (by omega) (by omega))]) (qD M + 1) N m 0 (by omega) (by omega) ⟨FLy.refl, rfl, fun _ _ _ => rfl, fun d hd => by omega⟩
  exact ⟨m', e, i1, i2, i3, fun d hd => i4 d (by omega)⟩
theorem t_layOut (hM : qOk M) (hN : 1000 ≤ N) {m : Mm} (hW : CW m 10 M) (hK : RKm m) : ∃ m', f_Ranks_layOut N S 10 m = some m' ∧ RLm m' M ∧ FLy m m' := by
  have hD := hM.2.1
  unfold f_Ranks_layOut
  have e6 : (if 6 < mI m 10 1 then 6 else mI m 10 1) = nI (qD M) := by rw [hW.2.1]; exact if_neg (nI_nlt (a := 6) (by omega) (by omega))
  rw [e6]
  have hW1 : CW (vI (vI m 18 11 (nI (qD M))) 18 10 1) 10 M := ((FLy_i (m := m) (by omega)).trans (FLy_i (by omega))).cw hW
  obtain ⟨m2, k1, k2, k3, k4, k5, k6⟩ := lay20 (N := N) (S := S) hM hN hW1 mI_s (fun (z11_2 : Int32) (m11 : Mm) => f_Ranks_layOut_L104 N S 10 (fun (z20_2 : Int32) (z20_3 : Int32) (z20_4 : Int32) (m20 : Mm) => ck (ix ((((mI m20 18 11)) + 1)) 8) (some (vX m20 26 (((((mI m20 18 11)) + 1)).toNatClampNeg) z20_3))) N 0 0 0 m11)
  have k1' : f_Ranks_layOut_L20 N S 10 (fun (z11_2 : Int32) (m11 : Mm) => f_Ranks_layOut_L104 N S 10 (fun (z20_2 : Int32) (z20_3 : Int32) (z20_4 : Int32) (m20 : Mm) => ck (ix ((((mI m20 18 11)) + 1)) 8) (some (vX m20 26 (((((mI m20 18 11)) + 1)).toNatClampNeg) z20_3))) N 0 0 0 m11) N 0 (vI (vI m 18 11 (nI (qD M))) 18 10 1) = _ := k1
  rw [k1']
  have f2 : FLy m m2 := ((FLy_i (m := m) (by omega)).trans (FLy_i (by omega))).trans k2
  have h11 : mI m2 18 11 = nI (qD M) := by rw [k3, mI_n (by omega), mI_s]
  obtain ⟨m3, l1, l2, l3, l4, l5⟩ := lay104 (N := N) (S := S) hM hN (f2.cw hW) (fun B hB => (show mX m2 24 B = mX m 24 B by unfold mX; rw [f2.2.2.1 24 (by omega)]).trans (hK.2.2.2.2 B hB)) h11 (fun (z20_2 : Int32) (z20_3 : Int32) (z20_4 : Int32) (m20 : Mm) => ck (ix ((((mI m20 18 11)) + 1)) 8) (some (vX m20 26 (((((mI m20 18 11)) + 1)).toNatClampNeg) z20_3)))
  have l1' : f_Ranks_layOut_L104 N S 10 (fun (z20_2 : Int32) (z20_3 : Int32) (z20_4 : Int32) (m20 : Mm) => ck (ix ((((mI m20 18 11)) + 1)) 8) (some (vX m20 26 (((((mI m20 18 11)) + 1)).toNatClampNeg) z20_3))) N 0 0 0 m2 = _ := l1
  have h11' : mI m3 18 11 = nI (qD M) := by unfold mI; rw [l3]; exact h11
  have h10' : mI m3 18 10 = nI (mks M) := by unfold mI; rw [l3]; exact k4
  have hix8 : ix (nI (qD M + 1)) 8 := nI_in (by omega) (by omega)
  refine ⟨vX m3 26 (qD M + 1) (nI (sta M (qD M + 1))), ?_, ⟨h11', h10', fun d hd => ?_, fun d hd => ?_, fun w hw => ?_, fun w hw ho => ?_⟩, (f2.trans l2).trans (FLy_x (by omega))⟩
  · show f_Ranks_layOut_L104 N S 10 _ N 0 0 0 m2 = _
    rw [l1', h11', nI_1, ck_t hix8, nI_clamp (by omega)]
  · rw [mX_n (by omega)]; exact (l5 d hd).1
  · by_cases q : d = qD M + 1
    · rw [q, mX_s]
    · rw [mX_n (by omega)]; exact (l5 d (by omega)).2
  · rw [mX_n (by omega)]
    have : mX m3 27 w = mX m2 27 w := by unfold mX; rw [l4 27 (by omega) (by omega)]
    rw [this]; exact k5 w hw
  · rw [mX_n (by omega)]
    have : mX m3 28 (lmF (qH M) (qL M) w) = mX m2 28 (lmF (qH M) (qL M) w) := by unfold mX; rw [l4 28 (by omega) (by omega)]
    rw [this]; exact k6 w hw ho
end LAYOUT
