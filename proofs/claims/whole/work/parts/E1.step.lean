/-! THE TEXT: a step. -/
def StepTo (len pos : Nat) (m mr : Mm) (a b : Option Mm) : Prop := ∃ pos' m' mr', a = some m' ∧ b = some mr' ∧ RS len pos' m' mr' ∧ pos ≤ pos' ∧ (¬ mI m' 2 3 = 0 → pos < pos') ∧ FS m m' ∧ FQ mr mr'
section STEP
variable {N : Nat} {S : St} {len : Nat}
theorem StepTo.back {pos pos1 : Nat} {m mr m1 mr1 : Mm} {a b : Option Mm} (hp : pos ≤ pos1) (h1 : FS m m1) (h2 : FQ mr mr1) (h : StepTo len pos1 m1 mr1 a b) : StepTo len pos m mr a b := by
  obtain ⟨pos', m', mr', i1, i2, i3, i4, i5, i6, i7⟩ := h
  exact ⟨pos', m', mr', i1, i2, i3, by omega, fun q => by have := i5 q; omega, h1.trans i6, h2.trans i7⟩
theorem ws_use (hN : 1000 ≤ N) {K K' : Mm → Option Mm} {pos : Nat} {m mr : Mm} (h : TP len pos m mr) (hk : ∀ pos' m' mr', TP len pos' m' mr' → StepTo len pos' m' mr' (K m') (K' mr')) : StepTo len pos m mr (f_Reader_step_L0 N S K N m) (f_Mo_next_L0 N K' N mr) := by
  have hl := h.2.2.2.2.2.1
  have hp := h.2.2.2.2.1
  obtain ⟨pos', m', mr', i1, i2, i3, i4, i5, i6⟩ := ws_loop (N := N) (S := S) K K' (len - pos) pos N N m mr (by omega) (by omega) (by omega) h
  rw [i2, i3]
  exact (hk pos' m' mr' i4).back i1 i5 i6
theorem wd_use (hN : 1000 ≤ N) {K K' : Mm → Option Mm} {pos : Nat} {m mr m0 mr0 : Mm} (hp : pos < len) (hL : lett (mX m 1 pos) = true) (h : TP len pos m mr) (h3 : mI m 2 3 = 1) (h4 : mI m 2 4 = nI pos) (h4' : mI mr 0 4 = nI pos) (hw : mJ m 2 6 = mJ mr 0 5) (f1 : FS m0 m) (f2 : FQ mr0 mr) (hk : ∀ pos' m' mr', pos < pos' → TP len pos' m' mr' → FS m0 m' → FQ mr0 mr' → mI m' 2 3 = 1 → mI m' 2 4 = nI pos → mI mr' 0 4 = nI pos → (pos' - pos ≤ 8 → mJ m' 2 6 = mJ mr' 0 5) → StepTo len pos m0 mr0 (K m') (K' mr')) : StepTo len pos m0 mr0 (f_Reader_readWord_L10 N S K N m) (f_Mo_next_L99 N K' N mr) := by
  have hl := h.2.2.2.2.2.1
  obtain ⟨pos', m', mr', i1, i2, i3, i4, i5, i6, i7, i8, i9, i10, i11⟩ := wd_loop (N := N) (S := S) K K' (len - pos) pos N N m mr (by omega) (by omega) (by omega) (Nat.le_refl _) h h4' (fun _ => hw)
  rw [i2, i3]
  exact hk pos' m' mr' (i11 hp hL) i4 (f1.trans i5) (f2.trans i6) (i7.trans h3) (i8.trans h4) i9 i10
theorem nb_use (hN : 1000 ≤ N) {K K' : Mm → Option Mm} {pos : Nat} {m mr m0 mr0 : Mm} (hp : pos < len) (hL : digi (mX m 1 pos) = true) (h : TP len pos m mr) (h3 : mI m 2 3 = 2) (h4 : mI m 2 4 = nI pos) (h4' : mI mr 0 4 = nI pos) (h5 : mI m 2 5 = 0) (h5' : mJ mr 0 5 = 0) (f1 : FS m0 m) (f2 : FQ mr0 mr) (hk : ∀ pos' v m' mr', pos < pos' → TP len pos' m' mr' → FS m0 m' → FQ mr0 mr' → mI m' 2 3 = 2 → mI m' 2 4 = nI pos → mI mr' 0 4 = nI pos → v ≤ 9999 → mJ mr' 0 5 = lN v → mI m' 2 5 = nI (if 1000 < v then 1000 else v) → StepTo len pos m0 mr0 (K m') (K' mr')) : StepTo len pos m0 mr0 (f_Reader_readNumber_L10 N S K N m) (f_Mo_next_L208 N K' N mr) := by
  have hl := h.2.2.2.2.2.1
  obtain ⟨pos', v', m', mr', i1, i2, i3, i4, i5, i6, i7, i8, i9, i10, i11, i12, i13⟩ := nb_loop (N := N) (S := S) K K' (len - pos) pos N N 0 m mr (by omega) (by omega) (by omega) h (by omega) h5' h5
  rw [i2, i3]
  exact hk pos' v' m' mr' (i13 hp hL) i4 (f1.trans i5) (f2.trans i6) (i7.trans h3) (i8.trans h4) (i9.trans h4') i10 i11 i12
theorem b3_id {o : Option Mm} : (b3 o fun m => some m) = o := by cases o <;> rfl
theorem t_step (hN : 1000 ≤ N) {pos : Nat} {m mr : Mm} (h : TP len pos m mr) : StepTo len pos m mr (f_Reader_step N S m) (f_Mo_next N mr) := by
  unfold f_Reader_step f_Mo_next
  refine ws_use hN h (fun pos' m' mr' h' => ?_)
  have hl := h'.2.2.2.2.2.1
  have hp := h'.2.2.2.2.1
  rw [h'.2.1, h'.1, h'.2.2.1, h'.2.2.2.1]
  by_cases q : pos' < len
  · have hix : ix (nI pos') 400 := nI_in (by omega) (by omega)
    have ec := h'.2.2.2.2.2.2 pos' (by omega)
    have e4 : mI (vI m' 2 4 (nI pos')) 2 1 = nI len := h'.1
    have eX : mX (vI m' 2 4 (nI pos')) 1 pos' = mX mr' 1 pos' := ec
    rw [if_pos (nI_lt q (by omega)), if_neg (fun w => by have := (nI_eq (by omega) (by omega)).mp w; omega), t_isL e4 q hl, b1_s, eX]
    simp only [ck_t hix, nI_clamp (show pos' < 2 ^ 31 by omega)]
    rw [t_isL', b1_s]
    cases hL : lett (mX mr' 1 pos') with
    | true =>
      rw [if_neg tft, if_neg tft, b3_id]
      unfold f_Reader_readWord
      refine wd_use hN q (by rw [← hL, ← ec]; rfl) (TP_of (((FS_i (by omega)).trans (FS_i (by omega))).trans FS_j) (((FQ_i (by omega)).trans FQ_j).trans (FQ_i (by omega))) h'.2.1 h'.2.2.2.1 hp h') rfl rfl rfl rfl (((FS_i (by omega)).trans (FS_i (by omega))).trans FS_j) (((FQ_i (by omega)).trans FQ_j).trans (FQ_i (by omega))) (fun p m5 mr5 g1 g2 g3 g4 g5 g6 g7 g8 => ?_)
      have hp5 := g2.2.2.2.2.1
      rw [g2.2.1, g6, g2.2.2.2.1, g7, pk_sub (by omega)]
      by_cases q8 : p - pos' ≤ 8
      · rw [if_pos (show nI (p - pos') ≤ 8 from nI_le (b := 8) q8 (by omega)), if_pos (show nI (p - pos') ≤ 8 from nI_le (b := 8) q8 (by omega))]
        exact ⟨p, m5, _, rfl, rfl, ⟨TP_of FS.refl (FQ_i (by omega)) g2.2.1 g2.2.2.2.1 hp5 g2, Or.inr (Or.inl ⟨g5, rfl, g8 q8⟩), ⟨g6.trans g7.symm, fun w => nI_m1 (show pos' < 2 ^ 31 by omega) (g6.symm.trans w)⟩⟩, by omega, fun _ => g1, g3, g4.trans (FQ_i (by omega))⟩
      · rw [if_neg (show ¬ nI (p - pos') ≤ 8 from nI_ge (a := 8) (by omega) (by omega)), if_neg (show ¬ nI (p - pos') ≤ 8 from nI_ge (a := 8) (by omega) (by omega))]
        exact ⟨p, _, _, rfl, rfl, ⟨TP_of FS_j (FQ_j.trans (FQ_i (by omega))) g2.2.1 g2.2.2.2.1 hp5 g2, Or.inr (Or.inl ⟨g5, rfl, rfl⟩), ⟨g6.trans g7.symm, fun w => nI_m1 (show pos' < 2 ^ 31 by omega) (g6.symm.trans w)⟩⟩, by omega, fun _ => g1, g3.trans FS_j, g4.trans (FQ_j.trans (FQ_i (by omega)))⟩
    | false =>
      rw [if_pos tf_f, if_pos tf_f, t_isD e4 q hl, b1_s, eX, t_isD', b1_s]
      cases hD : digi (mX mr' 1 pos') with
      | true =>
        rw [if_neg tft, if_neg tft, b3_id]
        unfold f_Reader_readNumber
        refine nb_use hN q (by rw [← hD, ← ec]; rfl) (TP_of (((FS_i (by omega)).trans (FS_i (by omega))).trans (FS_i (by omega))) (((FQ_i (by omega)).trans FQ_j).trans (FQ_i (by omega))) h'.2.1 h'.2.2.2.1 hp h') rfl rfl rfl rfl rfl (((FS_i (by omega)).trans (FS_i (by omega))).trans (FS_i (by omega))) (((FQ_i (by omega)).trans FQ_j).trans (FQ_i (by omega))) (fun p v m5 mr5 g1 g2 g3 g4 g5 g6 g7 g8 g9 g10 => ?_)
        have hp5 := g2.2.2.2.2.1
        exact ⟨p, m5, _, rfl, rfl, ⟨TP_of FS.refl (FQ_i (by omega)) g2.2.1 g2.2.2.2.1 hp5 g2, Or.inr (Or.inr (Or.inl ⟨v, g5, rfl, g8, g9, g10⟩)), ⟨g6.trans g7.symm, fun w => nI_m1 (show pos' < 2 ^ 31 by omega) (g6.symm.trans w)⟩⟩, by omega, fun _ => g1, g3, g4.trans (FQ_i (by omega))⟩
      | false =>
        rw [if_pos tf_f, if_pos tf_f]
        simp only [jn]
        have ec' : mX m' 1 pos' = mX mr' 1 pos' := ec
        rw [ec', nI_1]
        have fin : ∀ (s s' : Int32), ((s = 3 ∧ s' = 3 ∧ mX mr' 1 pos' = 44) ∨ (s = 4 ∧ s' = 3 ∧ mX mr' 1 pos' = 59) ∨ (s = 5 ∧ s' = 4)) → StepTo len pos' m' mr' (some (vI (vI (vI m' 2 4 (nI pos')) 2 3 s) 2 2 (nI (pos' + 1)))) (some (vI (vJ (vI (vI (vJ (vI mr' 0 4 (nI pos')) 0 5 0) 0 3 0) 0 3 s') 0 5 (mX mr' 1 pos').toInt64) 0 2 (nI (pos' + 1)))) := by
          intro s s' hs
          refine ⟨pos' + 1, _, _, rfl, rfl, ⟨TP_of (((FS_i (by omega)).trans (FS_i (by omega))).trans (FS_i (by omega))) (((((FQ_i (by omega)).trans FQ_j).trans (FQ_i (by omega))).trans (FQ_i (by omega))).trans (FQ_j.trans (FQ_i (by omega)))) mI_s mI_s (by omega) h', ?_, rfl, fun w => nI_m1 (show pos' < 2 ^ 31 by omega) w⟩, by omega, fun _ => by omega, ((FS_i (by omega)).trans (FS_i (by omega))).trans (FS_i (by omega)), ((((FQ_i (by omega)).trans FQ_j).trans (FQ_i (by omega))).trans (FQ_i (by omega))).trans (FQ_j.trans (FQ_i (by omega)))⟩
          rcases hs with ⟨rfl, rfl, hc⟩ | ⟨rfl, rfl, hc⟩ | ⟨rfl, rfl⟩
          · rw [hc]
            exact Or.inr (Or.inr (Or.inr (Or.inl ⟨rfl, rfl, rfl⟩)))
          · rw [hc]
            exact Or.inr (Or.inr (Or.inr (Or.inr (Or.inl ⟨rfl, rfl, rfl⟩))))
          · exact Or.inr (Or.inr (Or.inr (Or.inr (Or.inr ⟨rfl, rfl⟩))))
        by_cases c1 : mX mr' 1 pos' = 44
        · rw [if_pos c1, if_pos c1]
          exact fin 3 3 (Or.inl ⟨rfl, rfl, c1⟩)
        · rw [if_neg c1, if_neg c1]
          by_cases c2 : mX mr' 1 pos' = 59
          · rw [if_pos c2, if_pos c2]
            exact fin 4 3 (Or.inr (Or.inl ⟨rfl, rfl, c2⟩))
          · rw [if_neg c2, if_neg c2]
            exact fin 5 4 (Or.inr (Or.inr ⟨rfl, rfl⟩))
  · have e : pos' = len := by omega
    rw [if_neg (nI_nlt (by omega) (by omega)), if_pos (by rw [e])]
    exact ⟨pos', _, _, rfl, rfl, ⟨TP_of ((FS_i (by omega)).trans (FS_i (by omega))) (((FQ_i (by omega)).trans FQ_j).trans (FQ_i (by omega))) h'.2.1 h'.2.2.2.1 hp h', Or.inl ⟨rfl, rfl⟩, rfl, fun w => nI_m1 (show pos' < 2 ^ 31 by omega) w⟩, by omega, fun w => absurd rfl w, (FS_i (by omega)).trans (FS_i (by omega)), ((FQ_i (by omega)).trans FQ_j).trans (FQ_i (by omega))⟩
end STEP
