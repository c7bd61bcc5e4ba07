/-! THE TEXT: both read the same tokens. -/
def TP (len pos : Nat) (m mr : Mm) : Prop := mI m 2 1 = nI len ∧ mI m 2 2 = nI pos ∧ mI mr 0 1 = nI len ∧ mI mr 0 2 = nI pos ∧ pos ≤ len ∧ len ≤ 400 ∧ ∀ i, i < 400 → mX m 1 i = mX mr 1 i
def FS (m m' : Mm) : Prop := (∀ a k, ¬ (a = 2 ∧ (k = 2 ∨ k = 3 ∨ k = 4 ∨ k = 5)) → m'.1 a k = m.1 a k) ∧ (∀ a k, ¬ (a = 2 ∧ k = 6) → m'.2.1 a k = m.2.1 a k) ∧ m'.2.2 = m.2.2
def FQ (m m' : Mm) : Prop := (∀ a k, ¬ (a = 0 ∧ (k = 2 ∨ k = 3 ∨ k = 4)) → m'.1 a k = m.1 a k) ∧ (∀ a k, ¬ (a = 0 ∧ k = 5) → m'.2.1 a k = m.2.1 a k) ∧ m'.2.2 = m.2.2
/-- both have the same token -/
def Tkn (m mr : Mm) : Prop := (mI m 2 3 = 0 ∧ mI mr 0 3 = 0) ∨ (mI m 2 3 = 1 ∧ mI mr 0 3 = 1 ∧ mJ m 2 6 = mJ mr 0 5) ∨ (∃ v, mI m 2 3 = 2 ∧ mI mr 0 3 = 2 ∧ v ≤ 9999 ∧ mJ mr 0 5 = lN v ∧ mI m 2 5 = nI (if 1000 < v then 1000 else v)) ∨ (mI m 2 3 = 3 ∧ mI mr 0 3 = 3 ∧ mJ mr 0 5 = 44) ∨ (mI m 2 3 = 4 ∧ mI mr 0 3 = 3 ∧ mJ mr 0 5 = 59) ∨ (mI m 2 3 = 5 ∧ mI mr 0 3 = 4)
/-- both have the same place -/
def Plc (m mr : Mm) : Prop := mI m 2 4 = mI mr 0 4 ∧ ¬ mI m 2 4 = -1
def RS (len pos : Nat) (m mr : Mm) : Prop := TP len pos m mr ∧ Tkn m mr ∧ Plc m mr
def lett (c : Int32) : Bool := !(decide (c < 97)) && !(decide (122 < c))
def digi (c : Int32) : Bool := !(decide (c < 48)) && !(decide (57 < c))
section TOK
variable {N : Nat} {S : St} {len : Nat}
theorem FS.refl {m : Mm} : FS m m := ⟨fun _ _ _ => rfl, fun _ _ _ => rfl, rfl⟩
theorem FQ.refl {m : Mm} : FQ m m := ⟨fun _ _ _ => rfl, fun _ _ _ => rfl, rfl⟩
theorem FS.trans {m m1 m2 : Mm} (h : FS m m1) (h' : FS m1 m2) : FS m m2 := ⟨fun a k q => (h'.1 a k q).trans (h.1 a k q), fun a k q => (h'.2.1 a k q).trans (h.2.1 a k q), h'.2.2.trans h.2.2⟩
theorem FQ.trans {m m1 m2 : Mm} (h : FQ m m1) (h' : FQ m1 m2) : FQ m m2 := ⟨fun a k q => (h'.1 a k q).trans (h.1 a k q), fun a k q => (h'.2.1 a k q).trans (h.2.1 a k q), h'.2.2.trans h.2.2⟩
theorem FS_i {m : Mm} {k : Nat} {v : Int32} (h : k = 2 ∨ k = 3 ∨ k = 4 ∨ k = 5) : FS m (vI m 2 k v) := ⟨fun a j q => by
  show u2 m.1 2 k v a j = _
  unfold u2
  rw [if_neg (fun w => q ⟨w.1, by omega⟩)], fun _ _ _ => rfl, rfl⟩
theorem FS_j {m : Mm} {v : Int64} : FS m (vJ m 2 6 v) := ⟨fun _ _ _ => rfl, fun a j q => by
  show u2 m.2.1 2 6 v a j = _
  unfold u2
  rw [if_neg q], rfl⟩
theorem FQ_i {m : Mm} {k : Nat} {v : Int32} (h : k = 2 ∨ k = 3 ∨ k = 4) : FQ m (vI m 0 k v) := ⟨fun a j q => by
  show u2 m.1 0 k v a j = _
  unfold u2
  rw [if_neg (fun w => q ⟨w.1, by omega⟩)], fun _ _ _ => rfl, rfl⟩
theorem FQ_j {m : Mm} {v : Int64} : FQ m (vJ m 0 5 v) := ⟨fun _ _ _ => rfl, fun a j q => by
  show u2 m.2.1 0 5 v a j = _
  unfold u2
  rw [if_neg q], rfl⟩
theorem mI_s {m : Mm} {a k : Nat} {v : Int32} : mI (vI m a k v) a k = v := u2_s _ _ _ _
theorem mI_n {m : Mm} {a k b j : Nat} {v : Int32} (h : ¬ (b = a ∧ j = k)) : mI (vI m a k v) b j = mI m b j := by
  show u2 m.1 a k v b j = _
  unfold u2
  rw [if_neg h]
  rfl
theorem mJ_s {m : Mm} {a k : Nat} {v : Int64} : mJ (vJ m a k v) a k = v := u2_s _ _ _ _
theorem TP_of {pos pos' : Nat} {m m' mr mr' : Mm} (hS : FS m m') (hQ : FQ mr mr') (h1 : mI m' 2 2 = nI pos') (h2 : mI mr' 0 2 = nI pos') (hl : pos' ≤ len) (h : TP len pos m mr) : TP len pos' m' mr' := by
  obtain ⟨t1, _, t3, _, _, t6, t7⟩ := h
  refine ⟨(hS.1 2 1 (by omega)).trans t1, h1, (hQ.1 0 1 (by omega)).trans t3, h2, hl, t6, fun i hi => ?_⟩
  have e1 : mX m' 1 i = mX m 1 i := by unfold mX; rw [hS.2.2]
  have e2 : mX mr' 1 i = mX mr 1 i := by unfold mX; rw [hQ.2.2]
  rw [e1, e2]
  exact t7 i hi
theorem TP_1 {pos : Nat} {m mr : Mm} (hl : pos < len) (h : TP len pos m mr) : TP len (pos + 1) (vI m 2 2 (nI (pos + 1))) (vI mr 0 2 (nI (pos + 1))) := TP_of (FS_i (by omega)) (FQ_i (by omega)) mI_s mI_s (by omega) h
theorem t_isL {m : Mm} {pos : Nat} (h1 : mI m 2 1 = nI len) (hp : pos < len) (hl : len ≤ 400) : f_Reader_isLetterAt N S (nI pos) m = some (tf (lett (mX m 1 pos))) := by
  have hix : ix (nI pos) 400 := nI_in (by omega) (by omega)
  unfold f_Reader_isLetterAt lett
  rw [if_neg (nI_pos (by omega)), h1, if_neg (nI_ge hp (by omega))]
  simp only [ck_t hix, nI_clamp (show pos < 2 ^ 31 by omega)]
  by_cases q : mX m 1 pos < 97
  · rw [if_pos q, decide_eq_true q]; rfl
  · rw [if_neg q, decide_eq_false q]
    by_cases q' : 122 < mX m 1 pos
    · rw [if_pos q', decide_eq_true q']; rfl
    · rw [if_neg q', decide_eq_false q']; rfl
theorem t_isD {m : Mm} {pos : Nat} (h1 : mI m 2 1 = nI len) (hp : pos < len) (hl : len ≤ 400) : f_Reader_isDigitAt N S (nI pos) m = some (tf (digi (mX m 1 pos))) := by
  have hix : ix (nI pos) 400 := nI_in (by omega) (by omega)
  unfold f_Reader_isDigitAt digi
  rw [if_neg (nI_pos (by omega)), h1, if_neg (nI_ge hp (by omega))]
  simp only [ck_t hix, nI_clamp (show pos < 2 ^ 31 by omega)]
  by_cases q : mX m 1 pos < 48
  · rw [if_pos q, decide_eq_true q]; rfl
  · rw [if_neg q, decide_eq_false q]
    by_cases q' : 57 < mX m 1 pos
    · rw [if_pos q', decide_eq_true q']; rfl
    · rw [if_neg q', decide_eq_false q']; rfl
theorem t_isL' (c : Int32) : f_Mo_isLetter N c = some (tf (lett c)) := by
  unfold f_Mo_isLetter lett
  by_cases q : c < 97
  · rw [if_pos q, decide_eq_true q]; rfl
  · rw [if_neg q, decide_eq_false q]
    by_cases q' : 122 < c
    · rw [if_pos q', decide_eq_true q']; rfl
    · rw [if_neg q', decide_eq_false q']; rfl
theorem t_isD' (c : Int32) : f_Mo_isDigit N c = some (tf (digi c)) := by
  unfold f_Mo_isDigit digi
  by_cases q : c < 48
  · rw [if_pos q, decide_eq_true q]; rfl
  · rw [if_neg q, decide_eq_false q]
    by_cases q' : 57 < c
    · rw [if_pos q', decide_eq_true q']; rfl
    · rw [if_neg q', decide_eq_false q']; rfl
theorem digi_n {c : Int32} (h : digi c = true) : ∃ k, 48 ≤ k ∧ k ≤ 57 ∧ c = nI k := by
  unfold digi at h
  rw [Bool.and_eq_true, Bool.not_eq_true', Bool.not_eq_true', decide_eq_false_iff_not, decide_eq_false_iff_not, Int32.lt_iff_toInt_lt, Int32.lt_iff_toInt_lt] at h
  have e48 : (48 : Int32).toInt = 48 := by decide
  have e57 : (57 : Int32).toInt = 57 := by decide
  refine ⟨c.toInt.toNat, by omega, by omega, ?_⟩
  rw [← Int32.toInt_inj, nI_toInt (by omega)]
  omega
/-- blanks are passed -/
theorem ws_loop (K K' : Mm → Option Mm) : ∀ (r pos fc fr : Nat) (m mr : Mm), pos + r = len → r < fc → r < fr → TP len pos m mr → ∃ pos' m' mr', pos ≤ pos' ∧ f_Reader_step_L0 N S K fc m = K m' ∧ f_Mo_next_L0 N K' fr mr = K' mr' ∧ TP len pos' m' mr' ∧ FS m m' ∧ FQ mr mr' := by
  intro r
  induction r with
  | zero =>
    intro pos fc fr m mr hr hfc hfr h
    obtain ⟨fc, rfl⟩ : ∃ q, fc = q + 1 := ⟨fc - 1, by omega⟩
    obtain ⟨fr, rfl⟩ : ∃ q, fr = q + 1 := ⟨fr - 1, by omega⟩
    have hl := h.2.2.2.2.2.1
    refine ⟨pos, m, mr, Nat.le_refl _, ?_, ?_, h, FS.refl, FQ.refl⟩
    · rw [f_Reader_step_L0, h.1, h.2.1, if_pos (nI_le (by omega) (by omega))]
    · rw [f_Mo_next_L0, h.2.2.1, h.2.2.2.1, if_pos (nI_le (by omega) (by omega))]
  | succ r ih =>
    intro pos fc fr m mr hr hfc hfr h
    obtain ⟨fc, rfl⟩ : ∃ q, fc = q + 1 := ⟨fc - 1, by omega⟩
    obtain ⟨fr, rfl⟩ : ∃ q, fr = q + 1 := ⟨fr - 1, by omega⟩
    have hl := h.2.2.2.2.2.1
    have hix : ix (nI pos) 400 := nI_in (by omega) (by omega)
    have ec := h.2.2.2.2.2.2 pos (by omega)
    rw [f_Reader_step_L0, h.1, h.2.1, if_neg (nI_ge (by omega) (by omega)), f_Mo_next_L0, h.2.2.1, h.2.2.2.1, if_neg (nI_ge (by omega) (by omega))]
    simp only [ck_t hix, nI_clamp (show pos < 2 ^ 31 by omega)]
    rw [ec, nI_1]
    have go : ∃ pos' m' mr', pos ≤ pos' ∧ f_Reader_step_L0 N S K fc (vI m 2 2 (nI (pos + 1))) = K m' ∧ f_Mo_next_L0 N K' fr (vI mr 0 2 (nI (pos + 1))) = K' mr' ∧ TP len pos' m' mr' ∧ FS m m' ∧ FQ mr mr' := by
      obtain ⟨pos', m', mr', i1, i2, i3, i4, i5, i6⟩ := ih (pos + 1) fc fr _ _ (by omega) (by omega) (by omega) (TP_1 (by omega) h)
      exact ⟨pos', m', mr', by omega, i2, i3, i4, (FS_i (by omega)).trans i5, (FQ_i (by omega)).trans i6⟩
    by_cases q : mX mr 1 pos = 32
    · rw [if_pos q, if_pos q]
      exact go
    · rw [if_neg q, if_neg q]
      by_cases q' : mX mr 1 pos = 10
      · rw [if_pos q', if_pos q']
        exact go
      · rw [if_neg q', if_neg q']
        exact ⟨pos, m, mr, Nat.le_refl _, rfl, rfl, h, FS.refl, FQ.refl⟩
/-- a word -/
theorem wd_loop (K K' : Mm → Option Mm) {pl : Nat} : ∀ (r pos fc fr : Nat) (m mr : Mm), pos + r = len → r < fc → r < fr → pl ≤ pos → TP len pos m mr → mI mr 0 4 = nI pl → (pos - pl ≤ 8 → mJ m 2 6 = mJ mr 0 5) → ∃ pos' m' mr', pos ≤ pos' ∧ f_Reader_readWord_L10 N S K fc m = K m' ∧ f_Mo_next_L99 N K' fr mr = K' mr' ∧ TP len pos' m' mr' ∧ FS m m' ∧ FQ mr mr' ∧ mI m' 2 3 = mI m 2 3 ∧ mI m' 2 4 = mI m 2 4 ∧ mI mr' 0 4 = nI pl ∧ (pos' - pl ≤ 8 → mJ m' 2 6 = mJ mr' 0 5) ∧ (pos < len → lett (mX m 1 pos) = true → pos < pos') := by
  intro r
  induction r with
  | zero =>
    intro pos fc fr m mr hr hfc hfr hpl h h4 hw
    obtain ⟨fc, rfl⟩ : ∃ q, fc = q + 1 := ⟨fc - 1, by omega⟩
    obtain ⟨fr, rfl⟩ : ∃ q, fr = q + 1 := ⟨fr - 1, by omega⟩
    have hl := h.2.2.2.2.2.1
    refine ⟨pos, m, mr, Nat.le_refl _, ?_, ?_, h, FS.refl, FQ.refl, rfl, rfl, h4, hw, fun q => by omega⟩
    · rw [f_Reader_readWord_L10, h.1, h.2.1, if_pos (nI_le (by omega) (by omega))]
    · rw [f_Mo_next_L99, h.2.2.1, h.2.2.2.1, if_pos (nI_le (by omega) (by omega))]
  | succ r ih =>
    intro pos fc fr m mr hr hfc hfr hpl h h4 hw
    obtain ⟨fc, rfl⟩ : ∃ q, fc = q + 1 := ⟨fc - 1, by omega⟩
    obtain ⟨fr, rfl⟩ : ∃ q, fr = q + 1 := ⟨fr - 1, by omega⟩
    have hl := h.2.2.2.2.2.1
    have hix : ix (nI pos) 400 := nI_in (by omega) (by omega)
    have ec := h.2.2.2.2.2.2 pos (by omega)
    rw [f_Reader_readWord_L10, h.1, h.2.1, if_neg (nI_ge (by omega) (by omega)), t_isL h.1 (by omega) hl, b1_s, f_Mo_next_L99, h.2.2.1, h.2.2.2.1, if_neg (nI_ge (by omega) (by omega))]
    simp only [ck_t hix, nI_clamp (show pos < 2 ^ 31 by omega)]
    rw [t_isL', b1_s, ec, nI_1, h4, pk_sub hpl]
    cases hL : lett (mX mr 1 pos) with
    | false =>
      rw [if_pos tf_f, if_pos tf_f]
      exact ⟨pos, m, mr, Nat.le_refl _, rfl, rfl, h, FS.refl, FQ.refl, rfl, rfl, h4, hw, fun _ q => by cases q⟩
    | true =>
      rw [if_neg tft, if_neg tft]
      by_cases q : pos - pl < 8
      · rw [if_neg (show ¬ (8 : Int32) ≤ nI (pos - pl) from nI_ge (b := 8) q (by omega)), hw (by omega)]
        obtain ⟨pos', m', mr', i1, i2, i3, i4, i5, i6, i7, i8, i9, i10, i11⟩ := ih (pos + 1) fc fr (vI (vJ m 2 6 (((lsl ((mJ mr 0 5)) 8)) ||| (mX mr 1 pos).toInt64)) 2 2 (nI (pos + 1))) (vI (vJ mr 0 5 (((lsl ((mJ mr 0 5)) 8)) ||| (mX mr 1 pos).toInt64)) 0 2 (nI (pos + 1))) (by omega) (by omega) (by omega) (by omega) (TP_of (FS_j.trans (FS_i (by omega))) (FQ_j.trans (FQ_i (by omega))) mI_s mI_s (by omega) h) h4 (fun _ => by
          show mJ (vJ m 2 6 _) 2 6 = mJ (vJ mr 0 5 _) 0 5
          rw [mJ_s, mJ_s])
        exact ⟨pos', m', mr', by omega, i2, i3, i4, (FS_j.trans (FS_i (by omega))).trans i5, (FQ_j.trans (FQ_i (by omega))).trans i6, i7, i8, i9, i10, fun _ _ => by omega⟩
      · rw [if_pos (show (8 : Int32) ≤ nI (pos - pl) from nI_le (a := 8) (by omega) (by omega))]
        obtain ⟨pos', m', mr', i1, i2, i3, i4, i5, i6, i7, i8, i9, i10, i11⟩ := ih (pos + 1) fc fr (vI (vJ m 2 6 (((lsl ((mJ m 2 6)) 8)) ||| (mX mr 1 pos).toInt64)) 2 2 (nI (pos + 1))) (vI mr 0 2 (nI (pos + 1))) (by omega) (by omega) (by omega) (by omega) (TP_of (FS_j.trans (FS_i (by omega))) (FQ_i (by omega)) mI_s mI_s (by omega) h) h4 (fun q2 => by omega)
        exact ⟨pos', m', mr', by omega, i2, i3, i4, (FS_j.trans (FS_i (by omega))).trans i5, (FQ_i (by omega)).trans i6, i7, i8, i9, i10, fun _ _ => by omega⟩
/-- a number -/
theorem nb_loop (K K' : Mm → Option Mm) : ∀ (r pos fc fr v : Nat) (m mr : Mm), pos + r = len → r < fc → r < fr → TP len pos m mr → v ≤ 9999 → mJ mr 0 5 = lN v → mI m 2 5 = nI (if 1000 < v then 1000 else v) → ∃ pos' v' m' mr', pos ≤ pos' ∧ f_Reader_readNumber_L10 N S K fc m = K m' ∧ f_Mo_next_L208 N K' fr mr = K' mr' ∧ TP len pos' m' mr' ∧ FS m m' ∧ FQ mr mr' ∧ mI m' 2 3 = mI m 2 3 ∧ mI m' 2 4 = mI m 2 4 ∧ mI mr' 0 4 = mI mr 0 4 ∧ v' ≤ 9999 ∧ mJ mr' 0 5 = lN v' ∧ mI m' 2 5 = nI (if 1000 < v' then 1000 else v') ∧ (pos < len → digi (mX m 1 pos) = true → pos < pos') := by
  intro r
  induction r with
  | zero =>
    intro pos fc fr v m mr hr hfc hfr h hv h5 hw
    obtain ⟨fc, rfl⟩ : ∃ q, fc = q + 1 := ⟨fc - 1, by omega⟩
    obtain ⟨fr, rfl⟩ : ∃ q, fr = q + 1 := ⟨fr - 1, by omega⟩
    have hl := h.2.2.2.2.2.1
    refine ⟨pos, v, m, mr, Nat.le_refl _, ?_, ?_, h, FS.refl, FQ.refl, rfl, rfl, rfl, hv, h5, hw, fun q => by omega⟩
    · rw [f_Reader_readNumber_L10, h.1, h.2.1, if_pos (nI_le (by omega) (by omega))]
    · rw [f_Mo_next_L208, h.2.2.1, h.2.2.2.1, if_pos (nI_le (by omega) (by omega))]
  | succ r ih =>
    intro pos fc fr v m mr hr hfc hfr h hv h5 hw
    obtain ⟨fc, rfl⟩ : ∃ q, fc = q + 1 := ⟨fc - 1, by omega⟩
    obtain ⟨fr, rfl⟩ : ∃ q, fr = q + 1 := ⟨fr - 1, by omega⟩
    have hl := h.2.2.2.2.2.1
    have hix : ix (nI pos) 400 := nI_in (by omega) (by omega)
    have ec := h.2.2.2.2.2.2 pos (by omega)
    rw [f_Reader_readNumber_L10, h.1, h.2.1, if_neg (nI_ge (by omega) (by omega)), t_isD h.1 (by omega) hl, b1_s, f_Mo_next_L208, h.2.2.1, h.2.2.2.1, if_neg (nI_ge (by omega) (by omega))]
    simp only [ck_t hix, nI_clamp (show pos < 2 ^ 31 by omega)]
    rw [t_isD', b1_s, ec, nI_1]
    cases hL : digi (mX mr 1 pos) with
    | false =>
      rw [if_pos tf_f, if_pos tf_f]
      exact ⟨pos, v, m, mr, Nat.le_refl _, rfl, rfl, h, FS.refl, FQ.refl, rfl, rfl, rfl, hv, h5, hw, fun _ q => by cases q⟩
    | true =>
      rw [if_neg tft, if_neg tft]
      obtain ⟨k, k1, k2, ek⟩ := digi_n hL
      rw [ek, hw, h5]
      simp only [jn]
      have eC : ∀ w : Nat, w ≤ 1000 → (if (1000 : Int32) < nI w * 10 + nI k - 48 then (1000 : Int32) else nI w * 10 + nI k - 48) = nI (if 1000 < 10 * w + k - 48 then 1000 else 10 * w + k - 48) := fun w hw' => by
        rw [show (10 : Int32) = nI 10 from rfl, pk_mul, nI_add, show (48 : Int32) = nI 48 from rfl, pk_sub (by omega), Nat.mul_comm w 10]
        by_cases q : 1000 < 10 * w + k - 48
        · rw [if_pos q, if_pos (show (1000 : Int32) < nI (10 * w + k - 48) from nI_lt (a := 1000) q (by omega))]; rfl
        · rw [if_neg q, if_neg (show ¬ (1000 : Int32) < nI (10 * w + k - 48) from nI_nlt (a := 1000) (by omega) (by omega))]
      rw [eC _ (by split <;> omega)]
      have fin : ∀ v', v' ≤ 9999 → (if 1000 < 10 * (if 1000 < v then 1000 else v) + k - 48 then 1000 else 10 * (if 1000 < v then 1000 else v) + k - 48) = (if 1000 < v' then 1000 else v') → ∃ pos' v'' m' mr', pos ≤ pos' ∧ f_Reader_readNumber_L10 N S K fc (vI (vI m 2 5 (nI (if 1000 < 10 * (if 1000 < v then 1000 else v) + k - 48 then 1000 else 10 * (if 1000 < v then 1000 else v) + k - 48))) 2 2 (nI (pos + 1))) = K m' ∧ f_Mo_next_L208 N K' fr (vI (vJ mr 0 5 (lN v')) 0 2 (nI (pos + 1))) = K' mr' ∧ TP len pos' m' mr' ∧ FS m m' ∧ FQ mr mr' ∧ mI m' 2 3 = mI m 2 3 ∧ mI m' 2 4 = mI m 2 4 ∧ mI mr' 0 4 = mI mr 0 4 ∧ v'' ≤ 9999 ∧ mJ mr' 0 5 = lN v'' ∧ mI m' 2 5 = nI (if 1000 < v'' then 1000 else v'') ∧ (pos < len → True → pos < pos') := by
        intro v' hv' he
        rw [he]
        obtain ⟨pos', v'', m', mr', i1, i2, i3, i4, i5, i6, i7, i8, i9, i10, i11, i12, i13⟩ := ih (pos + 1) fc fr v' (vI (vI m 2 5 (nI (if 1000 < v' then 1000 else v'))) 2 2 (nI (pos + 1))) (vI (vJ mr 0 5 (lN v')) 0 2 (nI (pos + 1))) (by omega) (by omega) (by omega) (TP_of ((FS_i (by omega)).trans (FS_i (by omega))) (FQ_j.trans (FQ_i (by omega))) mI_s mI_s (by omega) h) hv' (by
          show mJ (vJ mr 0 5 _) 0 5 = _
          rw [mJ_s]) (by
          rw [mI_n (by omega), mI_s])
        exact ⟨pos', v'', m', mr', by omega, i2, i3, i4, ((FS_i (by omega)).trans (FS_i (by omega))).trans i5, (FQ_j.trans (FQ_i (by omega))).trans i6, i7, i8, i9, i10, i11, i12, fun _ _ => by omega⟩
      by_cases q : v ≤ 999
      · rw [if_pos (show lN v ≤ 999 from (lN_le (b := 999) (by omega) (by omega)).mpr q), nI_l (by omega), show (10 : Int64) = lN 10 from rfl, lN_mul, lN_add, show (48 : Int64) = lN 48 from rfl, lN_sub (by omega)]
        exact fin (10 * v + k - 48) (by omega) (by rw [if_neg (show ¬ 1000 < v by omega)])
      · rw [if_neg (show ¬ lN v ≤ 999 from fun w => q ((lN_le (b := 999) (by omega) (by omega)).mp w))]
        exact fin v hv (by
          by_cases q' : 1000 < v
          · rw [if_pos q', if_pos (by omega)]
          · rw [if_neg q', if_pos (by omega)]
            omega)
end TOK
