/-! THE BOOK: tables made ready. -/
def mst (t : Nat) : Nat := if t < 60 then 74256 else 34272
/-- how a new row's slots are paid -/
def pot (l M : Nat) : Nat := if l = M then 3 * M else 2 * l
theorem pot_le {l M : Nat} (h : l ≤ M) : pot l M ≤ 3 * M := by unfold pot; split <;> omega
def flen (S : St) (t : Nat) : Nat := match S.1 t 0 with
  | none => 0
  | some f => S.2.2.1 f
def wlen (S : St) : Nat := match S.1 30 2 with
  | none => 0
  | some f => S.2.2.1 f
def Phi (S : St) : Nat := (tKl.map (fun t => pot (flen S t) (mst t))).sum + pot (wlen S) 108528
theorem smt_le {f f' : Nat → Nat} : ∀ {l : List Nat}, (∀ i, i ∈ l → f i ≤ f' i) → (l.map f).sum ≤ (l.map f').sum
  | [], _ => Nat.le_refl _
  | a :: l, h => by
    have h1 := h a (by simp)
    have h2 := smt_le (l := l) (fun i hi => h i (by simp [hi]))
    simp only [List.map_cons, List.sum_cons]
    omega
theorem smt_add {f f' : Nat → Nat} {t n : Nat} : ∀ {l : List Nat}, t ∈ l → (∀ i, i ∈ l → f i ≤ f' i) → f t + n ≤ f' t → (l.map f).sum + n ≤ (l.map f').sum
  | [], h, _, _ => by simp at h
  | a :: l, h, hle, ht => by
    simp only [List.map_cons, List.sum_cons]
    by_cases e : t = a
    · subst e
      have h2 := smt_le (l := l) (f := f) (f' := f') (fun i hi => hle i (by simp [hi]))
      omega
    · have h1 := hle a (by simp)
      have h2 := smt_add (l := l) (by simpa [e] using h) (fun i hi => hle i (by simp [hi])) ht
      omega
/-- the rows that may grow are no longer than they may be -/
def LB (S : St) : Prop := (∀ t, t ∈ tKl → flen S t ≤ mst t) ∧ (∃ f, S.1 30 2 = some f ∧ (f = 31 ∨ 101 ≤ f)) ∧ wlen S ≤ 108528
/-- what the book knows is right -/
def CIb (M : Mt) (S : St) (m : Mm) : Prop := ShC S ∧ Env S m M ∧ LB S ∧ (∀ g b, g < 3 → b < 3 → mI m (34 + 3 * (3 * g + b)) 1 = 0 ∨ TE M S m g b) ∧ ∀ g k, g < 3 → k < 4 → mI m (62 + 3 * (4 * g + k)) 1 = 0 ∨ TS M S m g k
/-- what a call on the book leaves as it was -/
def FrC (m m' : Mm) : Prop := (∀ a k, a = 0 ∨ a = 10 ∨ a = 18 ∨ a = 2 ∨ a = 3 ∨ (a = 30 ∧ k = 3) → m'.1 a k = m.1 a k) ∧ (∀ k, m'.2.1 0 k = m.2.1 0 k) ∧ (∀ a, a < 30 ∨ a = 98 ∨ a = 100 → m'.2.2.1 a = m.2.2.1 a) ∧ (∀ a, a < 34 ∨ a = 99 → m'.2.2.2 a = m.2.2.2 a) ∧ ∀ a i, m'.2.2.1 a i = m.2.2.1 a i ∨ m'.2.2.1 a i = 0
theorem FrC.refl {m : Mm} : FrC m m := ⟨fun _ _ _ => rfl, fun _ => rfl, fun _ _ => rfl, fun _ _ => rfl, fun _ _ => Or.inl rfl⟩
theorem FrC.trans {m m1 m2 : Mm} (h : FrC m m1) (h' : FrC m1 m2) : FrC m m2 := ⟨fun a k q => (h'.1 a k q).trans (h.1 a k q), fun k => (h'.2.1 k).trans (h.2.1 k), fun a q => (h'.2.2.1 a q).trans (h.2.2.1 a q), fun a q => (h'.2.2.2.1 a q).trans (h.2.2.2.1 a q), fun a i => (h'.2.2.2.2 a i).elim (fun e => (h.2.2.2.2 a i).elim (fun e2 => Or.inl (e.trans e2)) (fun e2 => Or.inr (e.trans e2))) Or.inr⟩
/-- room: slots are paid; few keys are new -/
def Pay (S S' : St) (n : Nat) : Prop := S.2.2.2.2.2 + Phi S' + 0 ≤ S.2.2.2.2.2 + Phi S' ∧ S'.2.2.2.2.2 + Phi S ≤ S.2.2.2.2.2 + Phi S' ∧ S.2.2.2.2.1 ≤ S'.2.2.2.2.1 ∧ S'.2.2.2.2.1 ≤ S.2.2.2.2.1 + n
theorem Pay.refl {S : St} : Pay S S 0 := ⟨by omega, by omega, by omega, by omega⟩
theorem Pay.trans {S S1 S2 : St} {n n' : Nat} (h : Pay S S1 n) (h' : Pay S1 S2 n') : Pay S S2 (n + n') := by
  obtain ⟨_, a2, a3, a4⟩ := h
  obtain ⟨_, b2, b3, b4⟩ := h'
  exact ⟨by omega, by omega, by omega, by omega⟩
theorem Pay.mono {S S' : St} {n n' : Nat} (h : Pay S S' n) (hn : n ≤ n') : Pay S S' n' := ⟨h.1, h.2.1, h.2.2.1, by have := h.2.2.2; omega⟩
/-- a row is filled -/
theorem t_fill {N : Nat} {S : St} {f : Nat} {v : Int64} {m : Mm} (hN : 1000000 ≤ N) (hl : S.2.2.1 f ≤ 500000) : ∃ m', f_Arrays_fill2 N S f v m = some m' ∧ m'.1 = m.1 ∧ m'.2.1 = m.2.1 ∧ m'.2.2.1 = m.2.2.1 ∧ (∀ a, a ≠ f → m'.2.2.2 a = m.2.2.2 a) ∧ ∀ p, p < S.2.2.1 f → mYy m' f p = v := by
  unfold f_Arrays_fill2
  obtain ⟨m', ⟨b1, b2, b3, b4, b5⟩, e⟩ := loopE (fun n (x : Mm) j => f_Arrays_fill2_L6 N S f v (Int32.ofNat (S.2.2.1 f)) (fun (z3_3 : Int32) (m3 : Mm) => some m3) n (nI j) x) (fun x j => x.1 = m.1 ∧ x.2.1 = m.2.1 ∧ x.2.2.1 = m.2.2.1 ∧ (∀ a, a ≠ f → x.2.2.2 a = m.2.2.2 a) ∧ ∀ p, p < j → mYy x f p = v) (S.2.2.1 f) (fun x => some x) (fun n x j hj hI => by
    show ∃ x', _ ∧ f_Arrays_fill2_L6 N S f v (Int32.ofNat (S.2.2.1 f)) _ (n + 1) (nI j) x = _
    obtain ⟨b1, b2, b3, b4, b5⟩ := hI
    refine ⟨vY x f j v, ⟨b1, b2, b3, fun a ha => (vY_o ha).trans (b4 a ha), fun p hp => ?_⟩, ?_⟩
    · rw [vY_y]
      by_cases q : p = j
      · rw [if_pos ⟨rfl, q⟩]
      · rw [if_neg (fun w => q w.2)]
        exact b5 p (by omega)
    · rw [f_Arrays_fill2_L6, if_neg (show ¬ Int32.ofNat (S.2.2.1 f) ≤ nI j from nI_ge hj (by omega)), ck_t (nI_in hj (by omega)), nI_clamp (by omega), nI_1]) (fun n x hI => by
    show f_Arrays_fill2_L6 N S f v (Int32.ofNat (S.2.2.1 f)) _ (n + 1) (nI (S.2.2.1 f)) x = _
    rw [f_Arrays_fill2_L6, if_pos (show Int32.ofNat (S.2.2.1 f) ≤ nI (S.2.2.1 f) from nI_le (Nat.le_refl _) (by omega))]) (S.2.2.1 f) N m 0 (by omega) (by omega) ⟨rfl, rfl, rfl, fun _ _ => rfl, fun p hp => by omega⟩
  exact ⟨m', e, b1, b2, b3, b4, b5⟩
theorem kTC_100 {S : St} (h : ShC S) : 101 ≤ S.2.2.2.2.1 := by
  have := (h.1.1 (100, 12) (by decide)).1
  omega
theorem kTC_lt : ∀ e ∈ kTC, e.1 < 101 := by decide
theorem lTC_lt : ∀ e ∈ lTC, e.1 < 101 := by decide
theorem rTC_no : ∀ e ∈ rTC, ¬ (e.1 ∈ tKl ∧ e.2.1 = 0) ∧ ¬ (e.1 ∈ sKl ∧ e.2.1 = 4) ∧ ¬ (e.1 = 97 ∧ e.2.1 = 4) ∧ ¬ (e.1 = 30 ∧ e.2.1 = 2) := by decide
theorem tKl_lt : ∀ t ∈ tKl, t < 101 ∧ t ≠ 30 ∧ t ≠ 97 ∧ t ∉ sKl ∧ t ∉ eKl ∧ 34 ≤ t := by decide
/-- a new array is there, nobody has it yet -/
theorem ShC_aS {S : St} {k n : Nat} (h : ShC S) : ShC (aS S k n) := by
  have h1 := kTC_100 h
  obtain ⟨⟨a1, a2, a3⟩, b1, b2, b3, b4, b5, b6, b7⟩ := h
  have eK : ∀ a, a < S.2.2.2.2.1 → u1 S.2.1 S.2.2.2.2.1 k a = S.2.1 a := fun a ha => by unfold u1; rw [if_neg (by omega)]
  refine ⟨⟨fun e he => ?_, fun e he => ?_, a3⟩, fun t ht f hf => ?_, b2, b3, fun f hf => ?_, b5, fun j hj => ?_, fun j hj => ?_⟩
  · have := a1 e he
    exact ⟨Nat.lt_succ_of_lt this.1, (eK e.1 this.1).trans this.2⟩
  · have := lTC_lt e he
    show u1 S.2.2.1 S.2.2.2.2.1 n e.1 = e.2
    unfold u1
    rw [if_neg (by omega)]
    exact a2 e he
  · have := b1 t ht f hf
    exact ⟨Nat.lt_succ_of_lt this.1, (eK f this.1).trans this.2⟩
  · have := b4 f hf
    exact ⟨Nat.lt_succ_of_lt this.1, (eK f this.1).trans this.2⟩
  · show ur S.2.2.2.1 S.2.2.2.2.1 (fun _ => none) 32 j = _
    unfold ur
    rw [if_neg (by omega)]
    exact b6 j hj
  · show ur S.2.2.2.1 S.2.2.2.2.1 (fun _ => none) 60 j = _
    unfold ur
    rw [if_neg (by omega)]
    exact b7 j hj
/-- a table gets it -/
theorem ShC_sR {S : St} {t q : Nat} (h : ShC S) (ht : t ∈ tKl) (hq : q < S.2.2.2.2.1) (hk : S.2.1 q = 13) : ShC (sR S t 0 q) := by
  have h2 := tKl_lt t ht
  obtain ⟨⟨a1, a2, a3⟩, b1, b2, b3, b4, b5, b6, b7⟩ := h
  refine ⟨⟨a1, a2, fun e he => ?_⟩, fun t' ht' f hf => ?_, fun s hs e he => ?_, fun e he => ?_, fun f hf => ?_, fun e he t' ht' => ?_, b6, b7⟩
  · have := (rTC_no e he).1
    show u2 S.1 t 0 (some q) e.1 e.2.1 = _
    unfold u2
    rw [if_neg (fun w => this ⟨by rw [w.1]; exact ht, w.2⟩)]
    exact a3 e he
  · have hf' : u2 S.1 t 0 (some q) t' 0 = some f := hf
    unfold u2 at hf'
    by_cases e : t' = t
    · rw [if_pos ⟨e, rfl⟩] at hf'
      cases hf'
      exact ⟨hq, hk⟩
    · rw [if_neg (fun w => e w.1)] at hf'
      exact b1 t' ht' f hf'
  · have he' : u2 S.1 t 0 (some q) s 4 = some e := he
    rw [u2_k _ _ _ _ (by omega)] at he'
    exact b2 s hs e he'
  · have he' : u2 S.1 t 0 (some q) 97 4 = some e := he
    rw [u2_k _ _ _ _ (by omega)] at he'
    exact b3 e he'
  · have hf' : u2 S.1 t 0 (some q) 30 2 = some f := hf
    rw [u2_k _ _ _ _ (by omega)] at hf'
    exact b4 f hf'
  · have ht2 : u2 S.1 t 0 (some q) e 4 = some t' := ht'
    rw [u2_k _ _ _ _ (by omega)] at ht2
    exact b5 e he t' ht2
