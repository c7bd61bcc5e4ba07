/-! THE BOOK: a table made ready. -/
theorem Env_f {S S' : St} {m m' : Mm} {M : Mt} (h1 : ∀ a k, k ≠ 1 ∨ a = 10 ∨ a = 18 → a ≠ 97 → a ≠ 30 → a ≠ 0 → m'.1 a k = m.1 a k) (h3 : ∀ a, 10 ≤ a ∧ a < 30 → m'.2.2.1 a = m.2.2.1 a) (hT : TB S') (h : Env S m M) : Env S' m' M := by
  have e10 : ∀ k, mI m' 10 k = mI m 10 k := fun k => h1 10 k (by omega) (by omega) (by omega) (by omega)
  have e18 : ∀ k, mI m' 18 k = mI m 18 k := fun k => h1 18 k (by omega) (by omega) (by omega) (by omega)
  have eE : ∀ i, i < 9 → mI m' (33 + 3 * i) 3 = mI m (33 + 3 * i) 3 := fun i hi => h1 _ 3 (by omega) (by omega) (by omega) (by omega)
  have eS : ∀ i, i < 12 → mI m' (61 + 3 * i) 3 = mI m (61 + 3 * i) 3 := fun i hi => h1 _ 3 (by omega) (by omega) (by omega) (by omega)
  have eX : ∀ a k, 10 ≤ a ∧ a < 30 → mX m' a k = mX m a k := fun a k ha => by unfold mX; rw [h3 a ha]
  obtain ⟨c1, c2, c3, c4, _⟩ := h
  refine ⟨?_, ?_, ?_, ⟨fun i hi => (eE i hi).trans (c4.1 i hi), fun i hi => (eS i hi).trans (c4.2 i hi)⟩, hT⟩
  · unfold CW at *
    simp only [e10, eX (10 + 2) _ (by omega), eX (10 + 3) _ (by omega), eX (10 + 4) _ (by omega), eX (10 + 5) _ (by omega), eX (10 + 6) _ (by omega)]
    exact c1
  · unfold RKm at *
    simp only [eX 19 _ (by omega), eX 20 _ (by omega), eX 22 _ (by omega), eX 23 _ (by omega), eX 24 _ (by omega)]
    exact c2
  · unfold RLm at *
    simp only [e18, eX 25 _ (by omega), eX 26 _ (by omega), eX 27 _ (by omega), eX 28 _ (by omega)]
    exact c3
theorem TE_of {M : Mt} {S S' : St} {m m' : Mm} {g b : Nat} (h : ∀ f, S'.1 (34 + 3 * (3 * g + b)) 0 = some f → S.1 (34 + 3 * (3 * g + b)) 0 = some f ∧ S'.2.2.1 f = S.2.2.1 f ∧ ∀ p, mYy m' f p = mYy m f p) (hT : TE M S m g b) : TE M S' m' g b := fun f hf c p hL hp hl => by
  obtain ⟨a1, a2, a3⟩ := h f hf
  rw [a3]
  exact hT f a1 c p hL hp (by rw [← a2]; exact hl)
theorem TS_of {M : Mt} {S S' : St} {m m' : Mm} {g k : Nat} (h : ∀ f, S'.1 (62 + 3 * (4 * g + k)) 0 = some f → S.1 (62 + 3 * (4 * g + k)) 0 = some f ∧ S'.2.2.1 f = S.2.2.1 f ∧ ∀ p, mYy m' f p = mYy m f p) (hT : TS M S m g k) : TS M S' m' g k := fun f hf c d p hL hd hp hl => by
  obtain ⟨a1, a2, a3⟩ := h f hf
  rw [a3]
  exact hT f a1 c d p hL hd hp (by rw [← a2]; exact hl)
theorem flen_eq {S : St} {t f : Nat} (h : S.1 t 0 = some f) : flen S t = S.2.2.1 f := by unfold flen; rw [h]
theorem tKl_95 : ∀ t ∈ tKl, t ≤ 95 ∧ 34 ≤ t := by decide
section CREADY
variable {N : Nat} {M : Mt}
/-- what a table made ready means -/
def Rd1 (M : Mt) (S : St) (m : Mm) (S' : St) (m' : Mm) (t : Nat) : Prop := CIb M S' m' ∧ ¬ mI m' t 1 = 0 ∧ FrC m m' ∧ Pay S S' 1 ∧ (∀ a k, ¬ (a = t ∧ k = 1) → m'.1 a k = m.1 a k) ∧ m'.2.1 = m.2.1 ∧ ∀ a k, ¬ (a = t ∧ k = 0) → S'.1 a k = S.1 a k
theorem t_ready1 {S S1 : St} {m m1 : Mm} {t f : Nat} (hN : 1000000 ≤ N) (ht : t ∈ tKl) (hC : CIb M S m) (hS1 : ShC S1) (hTB : TB S1) (hLB : LB S1) (hf : S1.1 t 0 = some f) (hl : S1.2.2.1 f ≤ 500000) (hfo : f = t + 1 ∨ 101 ≤ f) (hP : Pay S S1 1) (hoth : ∀ a k, ¬ (a = t ∧ k = 0) → S1.1 a k = S.1 a k) (h1 : m1.1 = m.1) (h2 : m1.2.1 = m.2.1) (h3 : ∀ a, a < 101 → m1.2.2.1 a = m.2.2.1 a) (h3' : ∀ a i, m1.2.2.1 a i = m.2.2.1 a i ∨ m1.2.2.1 a i = 0) (h4 : ∀ a, a < 101 → a ≠ f → m1.2.2.2 a = m.2.2.2 a) (hrow : ∀ t' f', t' ∈ tKl → t' ≠ t → S.1 t' 0 = some f' → f' ≠ f ∧ S1.2.2.1 f' = S.2.2.1 f' ∧ m1.2.2.2 f' = m.2.2.2 f') : ∃ m', b3 (f_Arrays_fill2 N S1 f UNK m1) (fun m6 => some ((vI m6 t 1 1), S1)) = some (m', S1) ∧ Rd1 M S m S1 m' t := by
  have htk := tKl_95 t ht
  obtain ⟨m2, e, c1, c2, c3, c4, c5⟩ := t_fill (v := UNK) (m := m1) hN hl
  have hI : ∀ a k, (vI m2 t 1 1).1 a k = if a = t ∧ k = 1 then 1 else m.1 a k := fun a k => by
    show u2 m2.1 t 1 1 a k = _
    rw [c1, h1]
    rfl
  have hfr : FrC m (vI m2 t 1 1) := by
    refine ⟨fun a k ha => ?_, fun k => by show m2.2.1 0 k = _; rw [c2, h2], fun a ha => by show m2.2.2.1 a = _; rw [c3]; exact h3 a (by omega), fun a ha => ?_, fun a i => by show m2.2.2.1 a i = _ ∨ m2.2.2.1 a i = 0; rw [c3]; exact h3' a i⟩
    · rw [hI, if_neg (by omega)]
    · show m2.2.2.2 a = _
      rw [c4 a (by omega)]
      exact h4 a (by omega) (by omega)
  refine ⟨vI m2 t 1 1, by rw [e, b3_s], ⟨⟨hS1, ?_, hLB, fun g b hg hb => ?_, fun g k hg hk => ?_⟩, ?_, hfr, hP, fun a k hak => ?_, ?_, hoth⟩⟩
  · refine Env_f (fun a k hak _ _ _ => ?_) (fun a ha => ?_) hTB hC.2.1
    · rw [hI, if_neg (by omega)]
    · show m2.2.2.1 a = _
      rw [c3]
      exact h3 a (by omega)
  · by_cases q : 34 + 3 * (3 * g + b) = t
    · refine Or.inr (fun f' hf' c p hL hp hlp => Or.inl ?_)
      rw [q, hf] at hf'
      have hff : f = f' := Option.some.inj hf'
      rw [← hff] at hlp ⊢
      exact c5 p hlp
    · have hflag : mI (vI m2 t 1 1) (34 + 3 * (3 * g + b)) 1 = mI m (34 + 3 * (3 * g + b)) 1 := by
        have := hI (34 + 3 * (3 * g + b)) 1
        rw [if_neg (fun w => q w.1)] at this
        exact this
      rw [hflag]
      rcases hC.2.2.2.1 g b hg hb with w | w
      · exact Or.inl w
      · refine Or.inr (TE_of (fun f' hf' => ?_) w)
        rw [hoth _ _ (fun w => q w.1)] at hf'
        obtain ⟨r1, r2, r3⟩ := hrow _ f' (tE_mem g hg b hb) q hf'
        exact ⟨hf', r2, fun p => by show m2.2.2.2 f' p = m.2.2.2 f' p; rw [c4 f' r1, r3]⟩
  · by_cases q : 62 + 3 * (4 * g + k) = t
    · refine Or.inr (fun f' hf' c d p hL hd hp hlp => Or.inl ?_)
      rw [q, hf] at hf'
      have hff : f = f' := Option.some.inj hf'
      rw [← hff] at hlp ⊢
      exact c5 p hlp
    · have hflag : mI (vI m2 t 1 1) (62 + 3 * (4 * g + k)) 1 = mI m (62 + 3 * (4 * g + k)) 1 := by
        have := hI (62 + 3 * (4 * g + k)) 1
        rw [if_neg (fun w => q w.1)] at this
        exact this
      rw [hflag]
      rcases hC.2.2.2.2 g k hg hk with w | w
      · exact Or.inl w
      · refine Or.inr (TS_of (fun f' hf' => ?_) w)
        rw [hoth _ _ (fun w => q w.1)] at hf'
        obtain ⟨r1, r2, r3⟩ := hrow _ f' (tS_mem g hg k hk) q hf'
        exact ⟨hf', r2, fun p => by show m2.2.2.2 f' p = m.2.2.2 f' p; rw [c4 f' r1, r3]⟩
  · have : mI (vI m2 t 1 1) t 1 = 1 := by
      have := hI t 1
      rw [if_pos ⟨rfl, rfl⟩] at this
      exact this
    rw [this]
    decide
  · rw [hI, if_neg hak]
  · show m2.2.1 = _
    rw [c2, h2]
theorem nI_max {a b : Nat} (ha : a < 2 ^ 31) (hb : b < 2 ^ 31) : (if nI a < nI b then nI b else nI a) = nI (if a < b then b else a) := by
  by_cases q : a < b
  · rw [if_pos q, if_pos (nI_lt q hb)]
  · rw [if_neg q, if_neg (nI_nlt (by omega) ha)]
theorem nI_min {a b : Nat} (ha : a < 2 ^ 31) (hb : b < 2 ^ 31) : (if nI a < nI b then nI a else nI b) = nI (if a < b then a else b) := by
  by_cases q : a < b
  · rw [if_pos q, if_pos (nI_lt q hb)]
  · rw [if_neg q, if_neg (nI_nlt (by omega) ha)]
theorem t_ready (hN : 1000000 ≤ N) {S : St} {m : Mm} {t need : Nat} (ht : t ∈ tKl) (hn : need ≤ mst t) (hC : CIb M S m) : ∃ m' S', f_Table_makeReady N S t (nI need) (nI (mst t)) m = some (m', S') ∧ Rd1 M S m S' m' t := by
  have htk := tKl_lt t ht
  have hmst : mst t ≤ 74256 := by unfold mst; split <;> omega
  unfold f_Table_makeReady
  by_cases h0 : mI m t 1 = 0
  · obtain ⟨f, hf, hfo, hfl⟩ := hC.2.1.2.2.2.2.1 t ht
    have hlen := hC.2.2.1.1 t ht
    rw [flen_eq hf] at hlen
    have hfN := hC.1.2.1 t ht f hf
    rw [if_pos h0, hf]
    simp only [jn, b1_s]
    by_cases hne : need ≤ S.2.2.1 f
    · rw [if_pos (show nI need ≤ Int32.ofNat (S.2.2.1 f) from nI_le hne hfl), hf]
      simp only [b1_s]
      obtain ⟨m', e, h⟩ := t_ready1 (S1 := S) (m1 := m) hN ht hC hC.1 hC.2.1.2.2.2.2 hC.2.2.1 hf (by omega) hfo (Pay.refl.mono (by omega)) (fun _ _ _ => rfl) rfl rfl (fun _ _ => rfl) (fun _ _ => Or.inl rfl) (fun _ _ _ => rfl) (fun t' f' ht' htt hf' => ⟨fun w => htt (hC.2.1.2.2.2.2.2.1 t' ht' t ht (by rw [hf', hf, w])), rfl, rfl⟩)
      exact ⟨m', S, e, h⟩
    · have hlt : S.2.2.1 f < mst t := by omega
      rw [if_neg (show ¬ nI need ≤ Int32.ofNat (S.2.2.1 f) from nI_ge (by omega) (by omega))]
      have e2 : (2 : Int32) * Int32.ofNat (S.2.2.1 f) = nI (2 * S.2.2.1 f) := pk_mul 2 _
      have hmin : (if mst t < 2 * S.2.2.1 f then mst t else 2 * S.2.2.1 f) < 2 ^ 31 := by split <;> omega
      rw [e2, nI_min (by omega) (by omega), nI_max (by omega) hmin]
      generalize hn' : (if need < (if mst t < 2 * S.2.2.1 f then mst t else 2 * S.2.2.1 f) then (if mst t < 2 * S.2.2.1 f then mst t else 2 * S.2.2.1 f) else need) = n'
      have hnl : n' ≤ mst t ∧ S.2.2.1 f < n' ∧ need ≤ n' ∧ (n' = mst t ∨ 2 * S.2.2.1 f ≤ n') := by
        rw [← hn']
        split <;> split <;> omega
      have hN1 := kTC_100 hC.1
      have hS1 : ShC (aS S 13 n') := ShC_aS hC.1
      have hk13 : (aS S 13 n').2.1 S.2.2.2.2.1 = 13 := by
        show u1 S.2.1 S.2.2.2.2.1 13 S.2.2.2.2.1 = 13
        unfold u1
        rw [if_pos rfl]
      have hS2 : ShC (sR (aS S 13 n') t 0 S.2.2.2.2.1) := ShC_sR hS1 ht (Nat.lt_succ_self _) hk13
      have hcond : ¬ nI n' < 0 ∧ (nI n').toNatClampNeg * abt 13 ≤ 536870912 := by
        refine ⟨nI_pos (by omega), ?_⟩
        rw [nI_clamp (by omega)]
        have : abt 13 ≤ 8 := by decide
        calc n' * abt 13 ≤ 74256 * 8 := Nat.mul_le_mul (by omega) this
          _ ≤ 536870912 := by decide
      rw [ck_t hcond, nI_clamp (show n' < 2 ^ 31 by omega), ckc_t hS1, ckc_t hS2]
      have hq1 : (sR (aS S 13 n') t 0 S.2.2.2.2.1).1 t 0 = some S.2.2.2.2.1 := u2_s _ _ _ _
      have hqo : ∀ a k, ¬ (a = t ∧ k = 0) → (sR (aS S 13 n') t 0 S.2.2.2.2.1).1 a k = S.1 a k := fun a k hak => by
        show u2 S.1 t 0 (some S.2.2.2.2.1) a k = _
        unfold u2
        rw [if_neg hak]
      have hql : ∀ a, (sR (aS S 13 n') t 0 S.2.2.2.2.1).2.2.1 a = if a = S.2.2.2.2.1 then n' else S.2.2.1 a := fun a => rfl
      have hlo : ∀ t' f', t' ∈ tKl → S.1 t' 0 = some f' → f' ≠ S.2.2.2.2.1 := fun t' f' ht' hf' => by
        have := (hC.1.2.1 t' ht' f' hf').1
        omega
      have hflen : ∀ t', t' ∈ tKl → t' ≠ t → flen (sR (aS S 13 n') t 0 S.2.2.2.2.1) t' = flen S t' := fun t' ht' htt => by
        obtain ⟨f', hf', _, _⟩ := hC.2.1.2.2.2.2.1 t' ht'
        rw [flen_eq hf', flen_eq (f := f') (by rw [hqo _ _ (fun w => htt w.1)]; exact hf'), hql, if_neg (hlo t' f' ht' hf')]
      have hflent : flen (sR (aS S 13 n') t 0 S.2.2.2.2.1) t = n' := by rw [flen_eq hq1, hql, if_pos rfl]
      obtain ⟨fw, hfw, hfw2⟩ := hC.2.2.1.2.1
      have hfwN := (hC.1.2.2.2.2.1 fw hfw).1
      have hfw' : (sR (aS S 13 n') t 0 S.2.2.2.2.1).1 30 2 = some fw := by rw [hqo _ _ (by omega)]; exact hfw
      have hwl : wlen (sR (aS S 13 n') t 0 S.2.2.2.2.1) = wlen S := by
        unfold wlen
        rw [hfw', hfw]
        show (sR (aS S 13 n') t 0 S.2.2.2.2.1).2.2.1 fw = S.2.2.1 fw
        rw [hql, if_neg (by omega)]
      have hTB' : TB (sR (aS S 13 n') t 0 S.2.2.2.2.1) := by
        obtain ⟨t1, t2, t3⟩ := hC.2.1.2.2.2.2
        refine ⟨fun t' ht' => ?_, fun t' ht' t'' ht'' e => ?_, fun i hi => ?_⟩
        · by_cases q : t' = t
          · subst q
            exact ⟨_, hq1, Or.inr hN1, by rw [hql, if_pos rfl]; omega⟩
          · obtain ⟨f', a1, a2, a3⟩ := t1 t' ht'
            exact ⟨f', by rw [hqo _ _ (fun w => q w.1)]; exact a1, a2, by rw [hql, if_neg (hlo t' f' ht' a1)]; exact a3⟩
        · by_cases q : t' = t
          · by_cases q2 : t'' = t
            · rw [q, q2]
            · exfalso
              obtain ⟨f', a1, _, _⟩ := t1 t'' ht''
              rw [q, hq1, hqo _ _ (fun w => q2 w.1), a1] at e
              exact hlo t'' f' ht'' a1 (Option.some.inj e).symm
          · by_cases q2 : t'' = t
            · exfalso
              obtain ⟨f', a1, _, _⟩ := t1 t' ht'
              rw [q2, hq1, hqo _ _ (fun w => q w.1), a1] at e
              exact hlo t' f' ht' a1 (Option.some.inj e)
            · rw [hqo _ _ (fun w => q w.1), hqo _ _ (fun w => q2 w.1)] at e
              exact t2 t' ht' t'' ht'' e
        · rw [hqo _ _ (by omega)]
          exact t3 i hi
      have hLB' : LB (sR (aS S 13 n') t 0 S.2.2.2.2.1) := by
        refine ⟨fun t' ht' => ?_, ⟨fw, hfw', hfw2⟩, by rw [hwl]; exact hC.2.2.1.2.2⟩
        by_cases q : t' = t
        · rw [q, hflent]; exact hnl.1
        · rw [hflen t' ht' q]; exact hC.2.2.1.1 t' ht'
      have hPay : Pay S (sR (aS S 13 n') t 0 S.2.2.2.2.1) 1 := by
        refine ⟨by omega, ?_, Nat.le_succ _, Nat.le_refl _⟩
        have hp : pot (flen S t) (mst t) + n' ≤ pot (flen (sR (aS S 13 n') t 0 S.2.2.2.2.1) t) (mst t) := by
          rw [hflent, flen_eq hf]
          unfold pot
          rw [if_neg (by omega)]
          by_cases q : n' = mst t
          · rw [if_pos q]; omega
          · rw [if_neg q]
            rcases hnl.2.2.2 with w | w <;> omega
        have := smt_add (f := fun t => pot (flen S t) (mst t)) (f' := fun t' => pot (flen (sR (aS S 13 n') t 0 S.2.2.2.2.1) t') (mst t')) (n := n') ht (fun i hi => by
          by_cases q : i = t
          · rw [q]; omega
          · show pot (flen S i) (mst i) ≤ pot (flen (sR (aS S 13 n') t 0 S.2.2.2.2.1) i) (mst i)
            rw [hflen i hi q]
            exact Nat.le_refl _) hp
        show S.2.2.2.2.2 + n' + Phi S ≤ S.2.2.2.2.2 + Phi (sR (aS S 13 n') t 0 S.2.2.2.2.1)
        unfold Phi
        rw [hwl]
        omega
      rw [hq1]
      simp only [b1_s]
      obtain ⟨m', e, h⟩ := t_ready1 (S := S) (S1 := sR (aS S 13 n') t 0 S.2.2.2.2.1) (m := m) (m1 := aM m S) hN ht hC hS2 hTB' hLB' hq1 (by rw [hql, if_pos rfl]; omega) (Or.inr hN1) hPay hqo rfl rfl (fun a ha => by
        funext j
        show ur m.2.2.1 S.2.2.2.2.1 (fun _ => 0) a j = _
        unfold ur
        rw [if_neg (by omega)]) (fun a j => by
        show ur m.2.2.1 S.2.2.2.2.1 (fun _ => 0) a j = _ ∨ ur m.2.2.1 S.2.2.2.2.1 (fun _ => 0) a j = 0
        unfold ur
        by_cases q : a = S.2.2.2.2.1
        · rw [if_pos q]; exact Or.inr rfl
        · rw [if_neg q]; exact Or.inl rfl) (fun a ha haf => by
        funext j
        show ur m.2.2.2 S.2.2.2.2.1 (fun _ => 0) a j = _
        unfold ur
        rw [if_neg haf]) (fun t' f' ht' htt hf' => ⟨hlo t' f' ht' hf', by rw [hql, if_neg (hlo t' f' ht' hf')], by
        funext j
        show ur m.2.2.2 S.2.2.2.2.1 (fun _ => 0) f' j = _
        unfold ur
        rw [if_neg (hlo t' f' ht' hf')]⟩)
      exact ⟨m', _, e, h⟩
  · rw [if_neg h0]
    exact ⟨m, S, rfl, hC, h0, FrC.refl, Pay.refl.mono (by omega), fun _ _ _ => rfl, rfl, fun _ _ _ => rfl⟩
end CREADY
