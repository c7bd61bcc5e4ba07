/-! THE TWO MEMORIES: what holds between calls; the questions about NOW. -/
def CS0 (S : St) (m : Mm) : Prop := ShC S ∧ RKm m ∧ FX m ∧ TB S ∧ LB S
def TXT (m mr : Mm) (len : Nat) : Prop := len ≤ 400 ∧ mI m 0 1 = nI len ∧ mI mr 0 1 = nI len ∧ ∀ i, i < 400 → mX m 1 i = mX mr 1 i
def IMk (M : Mt) (m mr : Mm) (k : Nat) (o : Option (Nat × Nat × Option Nat)) : Prop := match o with
  | none => mX m 98 k = 0 ∧ mX mr 13 k = 0
  | some q => mX m 98 k = 1 ∧ mX mr 13 k = 1 ∧ NW M q.1 q.2.1 q.2.2 ∧ mYy m 99 k = cs q.1 q.2.1 ∧ mX m 100 k = zOpt q.2.2 ∧ mYy mr 10 k = rz q.1 ∧ mX mr 11 k = nI q.2.1 ∧ mX mr 12 k = zOpt q.2.2
/-- how often rows were walked; what is marked so -/
def WK (m : Mm) (s : Nat) : Prop := mI m 30 3 = nI s ∧ ∀ a i, a = 31 ∨ 101 ≤ a → ∃ v, v ≤ s ∧ mX m a i = nI v
theorem WK_f {m m' : Mm} {s : Nat} (h1 : m'.1 30 3 = m.1 30 3) (h3 : ∀ a i, a = 31 ∨ 101 ≤ a → m'.2.2.1 a i = m.2.2.1 a i ∨ m'.2.2.1 a i = 0) (h : WK m s) : WK m' s := by
  refine ⟨h1.trans h.1, fun a i ha => ?_⟩
  rcases h3 a i ha with e | e
  · obtain ⟨v, hv, q⟩ := h.2 a i ha
    exact ⟨v, hv, e.trans q⟩
  · exact ⟨0, Nat.zero_le _, e⟩
/-- that number is kept beside the images -/
def stm (im : Nat → Option (Nat × Nat × Option Nat)) : Nat := match im 4 with
  | none => 0
  | some q => q.1
def REL (tl : Bool) (M : Mt) (c d : Nat) (w : Option Nat) (im : Nat → Option (Nat × Nat × Option Nat)) (len : Nat) (S : St) (m mr : Mm) : Prop := (qOk M ∧ NW M c d w) ∧ ((CS0 S m ∧ WK m (stm im)) ∧ CW m 10 M ∧ mI m 0 6 = tf tl ∧ CN m c d w) ∧ (RW mr M ∧ mI mr 0 15 = tf tl ∧ RNw mr c d w) ∧ (∀ k, k < 4 → IMk M m mr k (im k)) ∧ TXT m mr len ∧ (tl = true → qE M ∧ CIb M S m ∧ RE mr M) ∧ (tl = false → qH M = 0 ∧ qD M = 0 ∧ w = none ∧ ∀ k, k < 4 → im k = none)
theorem CIb.cs0 {M : Mt} {S : St} {m : Mm} (h : CIb M S m) : CS0 S m := ⟨h.1, h.2.1.2.1, h.2.1.2.2.2.1, h.2.1.2.2.2.2, h.2.2.1⟩
theorem REL_q {M : Mt} {c d : Nat} {w : Option Nat} {im : Nat → Option (Nat × Nat × Option Nat)} {len : Nat} {S S' : St} {m m' mr mr' : Mm} {n : Nat} (h : REL true M c d w im len S m mr) (hq : Rq1 M S m S' m' n) (hp : PQ mr mr') (hR : RE mr' M) : REL true M c d w im len S' m' mr' := by
  obtain ⟨a1, a2, a3, a4, a5, a6, a7⟩ := h
  have e8 : ∀ a k, a = 1 ∨ a = 98 ∨ a = 100 → mX m' a k = mX m a k := fun a k ha => by unfold mX; rw [hq.2.1.2.2.1 a (by omega)]
  have e9 : ∀ k, mYy m' 99 k = mYy m 99 k := fun k => by unfold mYy; rw [hq.2.1.2.2.2.1 99 (by omega)]
  have er : ∀ a k, a = 1 ∨ a = 13 ∨ a = 11 ∨ a = 12 → mX mr' a k = mX mr a k := fun a k ha => by unfold mX; rw [hp.2.2.1 a (by omega) (by omega) (by omega) (by omega) (by omega)]
  have er2 : ∀ k, mYy mr' 10 k = mYy mr 10 k := fun k => by unfold mYy; rw [hp.2.2.2 10 (by omega) (by omega) (by omega) (by omega) (by omega) (by omega) (by omega)]
  refine ⟨a1, ⟨⟨hq.1.cs0, WK_f (hq.2.1.1 30 3 (by omega)) (fun a i _ => hq.2.1.2.2.2.2 a i) a2.1.2⟩, hq.1.2.1.1, (hq.2.1.1 0 6 (by omega)).trans a2.2.2.1, hq.2.1.cn a2.2.2.2⟩, ⟨hp.rw a3.1, (hp.1 0 15 (by omega)).trans a3.2.1, hp.rn a3.2.2⟩, fun k hk => ?_, ?_, fun _ => ⟨(a6 rfl).1, hq.1, hR⟩, a7⟩
  · have := a4 k hk
    unfold IMk at *
    cases e : im k with
    | none =>
      rw [e] at this
      show mX m' 98 k = 0 ∧ mX mr' 13 k = 0
      rw [e8 98 k (by omega), er 13 k (by omega)]
      exact this
    | some q =>
      rw [e] at this
      show mX m' 98 k = 1 ∧ mX mr' 13 k = 1 ∧ NW M q.1 q.2.1 q.2.2 ∧ mYy m' 99 k = cs q.1 q.2.1 ∧ mX m' 100 k = zOpt q.2.2 ∧ mYy mr' 10 k = rz q.1 ∧ mX mr' 11 k = nI q.2.1 ∧ mX mr' 12 k = zOpt q.2.2
      rw [e8 98 k (by omega), er 13 k (by omega), e9, e8 100 k (by omega), er2, er 11 k (by omega), er 12 k (by omega)]
      exact this
  · obtain ⟨t1, t2, t3, t4⟩ := a5
    refine ⟨t1, (hq.2.1.1 0 1 (by omega)).trans t2, (hp.1 0 1 (by omega)).trans t3, fun i hi => ?_⟩
    rw [e8 1 i (by omega), er 1 i (by omega)]
    exact t4 i hi
/-- both answer the same, and all holds again -/
def StQ (tl : Bool) (M : Mt) (c d : Nat) (w : Option Nat) (im : Nat → Option (Nat × Nat × Option Nat)) (len : Nat) (S : St) (fC : Option (Int32 × Mm × St)) (fR : Option (Int32 × Mm)) : Prop := ∃ r m' S' mr', fC = some (r, m', S') ∧ fR = some (r, mr') ∧ REL tl M c d w im len S' m' mr' ∧ Pay S S' 12
section STEPS
variable {N : Nat} {M : Mt} {tl : Bool} {c d : Nat} {w : Option Nat} {im : Nat → Option (Nat × Nat × Option Nat)} {len : Nat} {S : St} {m mr : Mm}
theorem StQ_same {r : Int32} (h : REL tl M c d w im len S m mr) : StQ tl M c d w im len S (some (r, m, S)) (some (r, mr)) := ⟨r, m, S, mr, rfl, rfl, h, Pay.refl.mono (by omega)⟩
theorem StQ_mk {r : Int32} {m' mr' : Mm} {S' : St} {n : Nat} {fC : Option (Int32 × Mm × St)} {fR : Option (Int32 × Mm)} (h : REL true M c d w im len S m mr) (hn : n ≤ 12) (eC : fC = some (r, m', S')) (eR : fR = some (r, mr')) (hq : Rq1 M S m S' m' n) (hp : PQ mr mr') (hR : RE mr' M) : StQ true M c d w im len S fC fR := ⟨r, m', S', mr', eC, eR, REL_q h hq hp hR, hq.2.2.mono hn⟩
/-- a goal, or none -/
theorem goal_or (x : Int32) : (f_SC_isGoal N x = some 0 ∧ f_Mo_isGoal N x = some 0) ∨ ∃ g, g < 3 ∧ x = nI g := by
  rcases pk_ix x (n := 3) (by omega) with h | h | ⟨g, hg, e⟩
  · refine Or.inl ⟨by unfold f_SC_isGoal; rw [if_pos h], ?_⟩
    unfold f_Mo_isGoal f_Mo_in
    rw [if_pos h, b1_s]
    exact ck_t (Or.inl rfl)
  · have h3 : (3 : Int32) ≤ x := h
    have hn : ¬ x < 0 := by
      rw [Int32.le_iff_toInt_le] at h3
      rw [Int32.lt_iff_toInt_lt]
      have e3 : (3 : Int32).toInt = 3 := by decide
      have e0 : (0 : Int32).toInt = 0 := by decide
      omega
    have h2 : (2 : Int32) < x := by
      rw [Int32.le_iff_toInt_le] at h3
      rw [Int32.lt_iff_toInt_lt]
      have e3 : (3 : Int32).toInt = 3 := by decide
      have e2 : (2 : Int32).toInt = 2 := by decide
      omega
    refine Or.inl ⟨by unfold f_SC_isGoal; rw [if_neg hn, if_pos h3], ?_⟩
    unfold f_Mo_isGoal f_Mo_in
    rw [if_neg hn, if_pos h2, b1_s]
    exact ck_t (Or.inl rfl)
  · exact Or.inr ⟨g, hg, e⟩
theorem st_sure (hN : 1000000 ≤ N) (h : REL tl M c d w im len S m mr) (x : Int32) (mean : Bool) : StQ tl M c d w im len S (f_SC_sure N S x (tf mean) m) (f_Mo_sure N x (tf mean) mr) := by
  cases tl with
  | false =>
    unfold f_SC_sure f_Mo_sure
    rw [h.2.1.2.2.1, h.2.2.1.2.1, if_pos tf_f, if_pos tf_f]
    exact StQ_same h
  | true =>
    rcases goal_or (N := N) x with ⟨g1, g2⟩ | ⟨g, hg, rfl⟩
    · unfold f_SC_sure f_Mo_sure
      rw [h.2.1.2.2.1, h.2.2.1.2.1, if_neg (by rw [tf_t]; decide), if_neg (by rw [tf_t]; decide), g1, g2, b1_s, b1_s, if_pos rfl, if_pos rfl]
      exact StQ_same h
    · obtain ⟨hE, hC, hR⟩ := h.2.2.2.2.2.1 rfl
      obtain ⟨m', S', e1, q1⟩ := tC_sure (mean := mean) h.1.1 hE hN hg (h.2.1.2.2.1) hC h.2.1.2.2.2 h.1.2
      obtain ⟨mr', e2, r2, p2⟩ := tR_sure (mean := mean) h.1.1 hE hN hg h.2.2.1.2.1 h.2.2.1.1 hR h.2.2.1.2.2 h.1.2
      exact StQ_mk h (by omega) e1 e2 q1 p2.pq r2
theorem st_best (hN : 1000000 ≤ N) (h : REL tl M c d w im len S m mr) (x : Int32) (mean : Bool) : StQ tl M c d w im len S (f_SC_best N S x (tf mean) m) (f_Mo_best N x (tf mean) mr) := by
  cases w with
  | none =>
    unfold f_SC_best f_Mo_best
    rw [h.2.1.2.2.2.2, h.2.2.1.2.2.2.2, if_pos (show zOpt none = -1 from rfl), if_pos (show zOpt none = -1 from rfl)]
    exact StQ_same h
  | some s =>
    have hs := (h.1.2.2.2.2.2 s rfl).1
    rcases goal_or (N := N) x with ⟨g1, g2⟩ | ⟨g, hg, rfl⟩
    · unfold f_SC_best f_Mo_best
      rw [h.2.1.2.2.2.2, h.2.2.1.2.2.2.2, if_neg (show ¬ zOpt (some s) = -1 from nI_m1 (by omega)), if_neg (show ¬ zOpt (some s) = -1 from nI_m1 (by omega)), g1, g2, b1_s, b1_s, if_pos rfl, if_pos rfl]
      exact StQ_same h
    · cases tl with
      | false => exact absurd (h.2.2.2.2.2.2 rfl).2.2.1 (by simp)
      | true =>
        obtain ⟨hE, hC, hR⟩ := h.2.2.2.2.2.1 rfl
        obtain ⟨m', S', b, e1, a1, q1⟩ := tC_best2 (mean := mean) h.1.1 hE hN hg hC h.2.1.2.2.2 h.1.2
        obtain ⟨mr', b', e2, a2, r2, p2⟩ := tR_best2 (mean := mean) h.1.1 hE hN hg h.2.2.1.1 hR h.2.2.1.2.2 h.1.2
        have : b' = b := Option.some.inj (a2.symm.trans a1)
        rw [this] at e2
        exact StQ_mk h (by omega) e1 e2 q1 p2.pq r2
theorem tft : ¬ tf true = 0 := by rw [tf_t]; decide
theorem st_mended (hN : 1000000 ≤ N) (h : REL tl M c d w im len S m mr) (x y : Int32) : StQ tl M c d w im len S (f_SC_mended N S x y m) (f_Mo_mended N x y mr) := by
  cases tl with
  | false =>
    have eC : f_SC_mended N S x y m = some (-1, m, S) := by unfold f_SC_mended; rw [h.2.1.2.2.1, if_pos tf_f]
    have eR : f_Mo_mended N x y mr = some (-1, mr) := by unfold f_Mo_mended; rw [h.2.2.1.2.1, if_pos tf_f]
    rw [eC, eR]
    exact StQ_same h
  | true =>
    rcases goal_or (N := N) x with ⟨g1, g2⟩ | ⟨g, hg, rfl⟩
    · have eC : f_SC_mended N S x y m = some (-1, m, S) := by unfold f_SC_mended; rw [h.2.1.2.2.1, if_neg tft, g1, b1_s, if_pos rfl]
      have eR : f_Mo_mended N x y mr = some (-1, mr) := by unfold f_Mo_mended; rw [h.2.2.1.2.1, if_neg tft, g2, b1_s, if_pos rfl]
      rw [eC, eR]
      exact StQ_same h
    · rcases pk_ix y (n := 2) (by omega) with hy | hy | ⟨k, hk, rfl⟩
      · have e2 : f_Mo_in N y 0 1 = some 0 := by unfold f_Mo_in; rw [if_pos hy]
        have eC : f_SC_mended N S (nI g) y m = some (-1, m, S) := by unfold f_SC_mended; rw [h.2.1.2.2.1, if_neg tft, tC_isGoal hg, b1_s, if_neg (show ¬ (1 : Int32) = 0 by decide), if_pos hy]
        have eR : f_Mo_mended N (nI g) y mr = some (-1, mr) := by unfold f_Mo_mended; rw [h.2.2.1.2.1, if_neg tft, tR_isGoal hg, b1_s, if_neg (show ¬ (1 : Int32) = 0 by decide), e2, b1_s, if_pos rfl]
        rw [eC, eR]
        exact StQ_same h
      · have h3 : (2 : Int32) ≤ y := hy
        have hn : ¬ y < 0 ∧ ¬ y ≤ 1 ∧ (1 : Int32) < y := by
          rw [Int32.le_iff_toInt_le] at h3
          rw [Int32.lt_iff_toInt_lt, Int32.le_iff_toInt_le, Int32.lt_iff_toInt_lt]
          have e3 : (2 : Int32).toInt = 2 := by decide
          have e0 : (0 : Int32).toInt = 0 := by decide
          have e1 : (1 : Int32).toInt = 1 := by decide
          omega
        have e2 : f_Mo_in N y 0 1 = some 0 := by unfold f_Mo_in; rw [if_neg hn.1, if_pos hn.2.2]
        have eC : f_SC_mended N S (nI g) y m = some (-1, m, S) := by unfold f_SC_mended; rw [h.2.1.2.2.1, if_neg tft, tC_isGoal hg, b1_s, if_neg (show ¬ (1 : Int32) = 0 by decide), if_neg hn.1, if_neg hn.2.1]
        have eR : f_Mo_mended N (nI g) y mr = some (-1, mr) := by unfold f_Mo_mended; rw [h.2.2.1.2.1, if_neg tft, tR_isGoal hg, b1_s, if_neg (show ¬ (1 : Int32) = 0 by decide), e2, b1_s, if_pos rfl]
        rw [eC, eR]
        exact StQ_same h
      · obtain ⟨hE, hC, hR⟩ := h.2.2.2.2.2.1 rfl
        obtain ⟨m', S', e1, q1⟩ := tC_mended h.1.1 hE hN hg hk (h.2.1.2.2.1) hC h.2.1.2.2.2 h.1.2
        obtain ⟨mr', e2, r2, p2⟩ := tR_mended h.1.1 hE hN hg hk h.2.2.1.2.1 h.2.2.1.1 hR h.2.2.1.2.2 h.1.2
        exact StQ_mk h (by omega) e1 e2 q1 p2.pq r2
theorem st_judged (hN : 1000000 ≤ N) (h : REL tl M c d w im len S m mr) (x y z : Int32) : StQ tl M c d w im len S (f_SC_judged N S x y z m) (f_Mo_judged N x y z mr) := by
  rcases goal_or (N := N) x with ⟨g1, g2⟩ | ⟨g, hg, rfl⟩
  · unfold f_SC_judged f_Mo_judged
    rw [g1, g2, b1_s, b1_s, if_pos rfl, if_pos rfl]
    exact StQ_same h
  · obtain ⟨n, hn, rfl⟩ := wb_of32 y
    obtain ⟨k, hk, rfl⟩ := wb_of32 z
    cases tl with
    | false =>
      have eC : f_SC_judged N S (nI g) (nI n) (nI k) m = some (-2147483648, m, S) := by unfold f_SC_judged f_SC_judge; rw [tC_isGoal hg, b1_s, if_neg (show ¬ (1 : Int32) = 0 by decide), h.2.1.2.2.1, if_pos tf_f, b1_s, if_neg (show ¬ (9 : Int32) = -1 by decide)]
      have eR : f_Mo_judged N (nI g) (nI n) (nI k) mr = some (-2147483648, mr) := by unfold f_Mo_judged f_Mo_judge; rw [tR_isGoal hg, b1_s, if_neg (show ¬ (1 : Int32) = 0 by decide), h.2.2.1.2.1, if_pos tf_f, b2_s, if_neg (show ¬ (9 : Int32) = -1 by decide)]
      rw [eC, eR]
      exact StQ_same h
    | true =>
      obtain ⟨hE, hC, hR⟩ := h.2.2.2.2.2.1 rfl
      obtain ⟨m', S', e1, q1⟩ := tC_judged h.1.1 hE hN hg hn hk (h.2.1.2.2.1) hC h.2.1.2.2.2 h.1.2
      obtain ⟨mr', e2, p2, r2⟩ := tR_judged h.1.1 hE hN hg hn hk h.2.2.1.2.1 h.2.2.1.1 hR h.2.2.1.2.2 h.1.2
      exact StQ_mk h (by omega) e1 e2 q1 p2 r2
end STEPS
