/-! THE BOOK: ends and sights made ready. -/
theorem szF_l : (List.range 7).map szF = [1, 13, 91, 455, 1820, 6188, 18564] := by decide +kernel
theorem szF_e {B : Nat} (h : B < 7) : szF B = ([1, 13, 91, 455, 1820, 6188, 18564] : List Nat).getD B 0 := by
  have e : ((List.range 7).map szF)[B]? = some (szF B) := by
    rw [List.getElem?_map, List.getElem?_range h]
    rfl
  rw [szF_l] at e
  rw [List.getD_eq_getElem?_getD, e]
  rfl
theorem szF_m {a b : Nat} (h : a ≤ b) (hb : b < 7) : szF a ≤ szF b := by
  rw [szF_e (by omega), szF_e hb]
  exact (by decide : ∀ b, b < 7 → ∀ a, a ≤ b → ([1, 13, 91, 455, 1820, 6188, 18564] : List Nat).getD a 0 ≤ ([1, 13, 91, 455, 1820, 6188, 18564] : List Nat).getD b 0) b hb a h
theorem lim_d (M : Mt) : ∀ d, lim M d ≤ d
  | 0 => Nat.le_refl _
  | d + 1 => by
    have := lim_d M d
    rw [lim]
    split <;> omega
theorem sta_le (M : Mt) : ∀ {d : Nat}, d ≤ 7 → sta M d ≤ psu szF d
  | 0, _ => Nat.le_refl _
  | d + 1, h => by
    have h1 := sta_le M (d := d) (by omega)
    have h2 := szF_m (lim_d M d) (show d < 7 by omega)
    show sta M d + szF (lim M d) ≤ psu szF d + szF d
    omega
theorem psz_6 : psu szF 6 = 8568 := by decide +kernel
theorem mks_4 {M : Mt} (hM : qOk M) (hE : qE M) : mks M ≤ 4 := by
  have hH := hM.1
  obtain ⟨h, h1, h2⟩ := hE
  exact (mkF_b (qH M) (by omega) (qL M) (qL8 hM)).2.2 h h1 h2
section CBOOK
variable {N : Nat} {M : Mt}
theorem t_endPlaces (hM : qOk M) {S : St} {m : Mm} (hL : RLm m M) : f_Ranks_endPlaces N S m = some (nI (szF (lim M (qD M)) * mks M)) := by
  have hD := hM.2.1
  unfold f_Ranks_endPlaces
  have e : sta M (qD M + 1) = sta M (qD M) + szF (lim M (qD M)) := rfl
  rw [hL.1, nI_1, ck_t (nI_in (by omega) (by omega)), ck_t (nI_in (by omega) (by omega)), nI_clamp (by omega), nI_clamp (by omega), hL.2.2.2.1 _ (Nat.le_refl _), hL.2.2.2.1 _ (by omega), hL.2.1, pk_sub (by omega), pk_mul, e, Nat.add_sub_cancel_left]
theorem t_dayPlaces (hM : qOk M) {S : St} {m : Mm} (hL : RLm m M) : f_Ranks_dayPlaces N S m = some (nI (sta M (qD M) * mks M)) := by
  have hD := hM.2.1
  unfold f_Ranks_dayPlaces
  rw [hL.1, ck_t (nI_in (by omega) (by omega)), nI_clamp (by omega), hL.2.2.2.1 _ (by omega), hL.2.1, pk_mul]
theorem need_e (hM : qOk M) (hE : qE M) : szF (lim M (qD M)) * mks M ≤ 74256 := by
  have h1 := szF_v (lim M (qD M)) (by have := lim_le M (qD M); omega)
  have h2 := mks_4 hM hE
  calc szF (lim M (qD M)) * mks M ≤ 18564 * 4 := Nat.mul_le_mul h1 h2
    _ = 74256 := by decide
theorem need_d (hM : qOk M) (hE : qE M) : sta M (qD M) * mks M ≤ 34272 := by
  have hD := hM.2.1
  have h1 := sta_le M (d := qD M) (by omega)
  have h3 := psu_mono szF (show qD M ≤ 6 from hD)
  rw [psz_6] at h3
  have h2 := mks_4 hM hE
  calc sta M (qD M) * mks M ≤ 8568 * 4 := Nat.mul_le_mul (by omega) h2
    _ = 34272 := by decide
/-- what tables made ready leave -/
def Rdn (M : Mt) (S : St) (m : Mm) (S' : St) (m' : Mm) (n : Nat) : Prop := CIb M S' m' ∧ FrC m m' ∧ Pay S S' n ∧ (∀ a k, ¬ (a ∈ tKl ∧ k = 1) → m'.1 a k = m.1 a k) ∧ m'.2.1 = m.2.1 ∧ (∀ t, t ∈ tKl → ¬ mI m t 1 = 0 → ¬ mI m' t 1 = 0) ∧ ∀ a k, ¬ (a ∈ tKl ∧ k = 0) → S'.1 a k = S.1 a k
theorem Rdn.refl {S : St} {m : Mm} (h : CIb M S m) : Rdn M S m S m 0 := ⟨h, FrC.refl, Pay.refl, fun _ _ _ => rfl, rfl, fun _ _ h => h, fun _ _ _ => rfl⟩
theorem Rdn.trans {S S1 S2 : St} {m m1 m2 : Mm} {n n' : Nat} (h : Rdn M S m S1 m1 n) (h' : Rdn M S1 m1 S2 m2 n') : Rdn M S m S2 m2 (n + n') := ⟨h'.1, h.2.1.trans h'.2.1, h.2.2.1.trans h'.2.2.1, fun a k q => (h'.2.2.2.1 a k q).trans (h.2.2.2.1 a k q), h'.2.2.2.2.1.trans h.2.2.2.2.1, fun t ht q => h'.2.2.2.2.2.1 t ht (h.2.2.2.2.2.1 t ht q), fun a k q => (h'.2.2.2.2.2.2 a k q).trans (h.2.2.2.2.2.2 a k q)⟩
theorem Rd1.rdn {S S' : St} {m m' : Mm} {t : Nat} (ht : t ∈ tKl) (h : Rd1 M S m S' m' t) : Rdn M S m S' m' 1 := by
  obtain ⟨a1, a2, a3, a4, a5, a6, a7⟩ := h
  refine ⟨a1, a3, a4, fun a k q => a5 a k (fun w => q ⟨by rw [w.1]; exact ht, w.2⟩), a6, fun t' ht' q => ?_, fun a k q => a7 a k (fun w => q ⟨by rw [w.1]; exact ht, w.2⟩)⟩
  by_cases e : t' = t
  · rw [e]; exact a2
  · have : mI m' t' 1 = mI m t' 1 := a5 t' 1 (fun w => e w.1)
    rw [this]; exact q
theorem t_bookEnds (hM : qOk M) (hE : qE M) (hN : 1000000 ≤ N) {S : St} {m : Mm} {g b : Nat} (hg : g < 3) (hb : b < 3) (hC : CIb M S m) : ∃ m' S', f_Book_ends N S (nI g) (nI b) m = some (33 + 3 * (3 * g + b), m', S') ∧ Rdn M S m S' m' (b + 1) ∧ (∀ b', b' ≤ b → TE M S' m' g b') ∧ ∀ b', b' ≤ b → ¬ mI m' (34 + 3 * (3 * g + b')) 1 = 0 := by
  unfold f_Book_ends
  rw [show (3 : Int32) = nI 3 from rfl, pk_mul]
  obtain ⟨⟨m', S'⟩, ⟨b1, b2⟩, e⟩ := loopE (fun n (x : Mm × St) j => f_Book_ends_L7 N (nI b) (nI (g * 3)) (fun (z5_4 : Int32) (m5 : Mm) (S5 : St) => ck (ix ((nI (g * 3) + nI b)) 9) (some ((33 + 3 * ((nI (g * 3) + nI b)).toNatClampNeg), m5, S5))) n (nI j) x.1 x.2) (fun x j => Rdn M S m x.2 x.1 j ∧ ∀ b', b' < j → ¬ mI x.1 (34 + 3 * (3 * g + b')) 1 = 0) (b + 1) (fun x => some (33 + 3 * (3 * g + b), x.1, x.2)) (fun n x j hj hI => by
    show ∃ x', _ ∧ f_Book_ends_L7 N (nI b) (nI (g * 3)) _ (n + 1) (nI j) x.1 x.2 = _
    obtain ⟨b1, b2⟩ := hI
    have hmem := tE_mem g hg j (by omega)
    have hms : mst (34 + 3 * (3 * g + j)) = 74256 := by unfold mst; rw [if_pos (by omega)]
    obtain ⟨m1, S1, e1, r1⟩ := t_ready hN hmem (need := szF (lim M (qD M)) * mks M) (by rw [hms]; exact need_e hM hE) b1.1
    refine ⟨(m1, S1), ⟨b1.trans (r1.rdn hmem), fun b' hb' => ?_⟩, ?_⟩
    · by_cases q : b' = j
      · rw [q]; exact r1.2.1
      · exact (r1.rdn hmem).2.2.2.2.2.1 _ (tE_mem g hg b' (by omega)) (b2 b' (by omega))
    · rw [hms] at e1
      have ek : 33 + 3 * (nI (g * 3 + j)).toNatClampNeg + 1 = 34 + 3 * (3 * g + j) := by rw [nI_clamp (by omega)]; omega
      rw [f_Book_ends_L7, if_neg (nI_nlt (by omega) (by omega)), nI_add, ck_t (nI_in (show g * 3 + j < 9 by omega) (by omega)), t_endPlaces hM b1.1.2.1.2.2.1, b1_s, ek, show (74256 : Int32) = nI 74256 from rfl, e1]
      show ckc (ShC S1) _ = _
      rw [ckc_t r1.1.1, nI_1]) (fun n x hI => by
    show f_Book_ends_L7 N (nI b) (nI (g * 3)) _ (n + 1) (nI (b + 1)) x.1 x.2 = _
    rw [f_Book_ends_L7, if_pos (nI_lt (by omega) (by omega)), nI_add, ck_t (nI_in (show g * 3 + b < 9 by omega) (by omega)), nI_clamp (by omega), Nat.mul_comm g 3]) (b + 1) N (m, S) 0 (by omega) (by omega) ⟨Rdn.refl hC, fun b' hb' => by omega⟩
  refine ⟨m', S', ?_, b1, fun b' hb' => ?_, fun b' hb' => b2 b' (by omega)⟩
  · exact e
  · rcases b1.1.2.2.2.1 g b' hg (by omega) with w | w
    · exact absurd w (b2 b' (by omega))
    · exact w
theorem TE_sR {S : St} {m : Mm} {s e g b : Nat} (h : TE M S m g b) : TE M (sR S s 4 e) m g b := fun f hf c p hL hp hl => by
  have hf' : u2 S.1 s 4 (some e) (34 + 3 * (3 * g + b)) 0 = some f := hf
  rw [u2_k _ _ _ _ (by omega)] at hf'
  exact h f hf' c p hL hp hl
theorem TS_sR {S : St} {m : Mm} {s e g k : Nat} (h : TS M S m g k) : TS M (sR S s 4 e) m g k := fun f hf c d p hL hd hp hl => by
  have hf' : u2 S.1 s 4 (some e) (62 + 3 * (4 * g + k)) 0 = some f := hf
  rw [u2_k _ _ _ _ (by omega)] at hf'
  exact h f hf' c d p hL hd hp hl
theorem sKl_lt : ∀ s ∈ sKl, s ∉ eKl ∧ s ∉ tKl ∧ s ≠ 97 ∧ s ≠ 30 ∧ 61 ≤ s := by decide
/-- a sight gets its ends -/
theorem CIb_sE {S : St} {m : Mm} {s e : Nat} (hs : s ∈ sKl ∨ s = 97) (he : e ∈ eKl) (hC : CIb M S m) : CIb M (sR S s 4 e) m ∧ Pay S (sR S s 4 e) 0 := by
  have hn : ∀ a k, ¬ k = 4 → (sR S s 4 e).1 a k = S.1 a k := fun a k hk => u2_k _ _ _ _ hk
  have hse : s ∉ eKl ∧ s ∉ tKl := by
    rcases hs with h | h
    · exact ⟨(sKl_lt s h).1, (sKl_lt s h).2.1⟩
    · subst h; exact ⟨by decide, by decide⟩
  have hfl : ∀ t, flen (sR S s 4 e) t = flen S t := fun t => by unfold flen; rw [hn t 0 (by omega)]; rfl
  have hwl : wlen (sR S s 4 e) = wlen S := by unfold wlen; rw [hn 30 2 (by omega)]; rfl
  obtain ⟨c1, c2, c3, c4, c5⟩ := hC
  refine ⟨⟨?_, ?_, ?_, fun g b hg hb => ?_, fun g k hg hk => ?_⟩, ?_⟩
  · obtain ⟨⟨a1, a2, a3⟩, b1, b2, b3, b4, b5, b6, b7⟩ := c1
    refine ⟨⟨a1, a2, fun x hx => ?_⟩, fun t ht f hf => b1 t ht f (by rw [← hn t 0 (by omega)]; exact hf), fun s' hs' x hx => ?_, fun x hx => ?_, fun f hf => b4 f (by rw [← hn 30 2 (by omega)]; exact hf), fun x hx t ht => ?_, b6, b7⟩
    · have := rTC_no x hx
      show u2 S.1 s 4 (some e) x.1 x.2.1 = _
      unfold u2
      rw [if_neg (fun w => by
        rcases hs with h | h
        · exact this.2.1 ⟨by rw [w.1]; exact h, w.2⟩
        · exact this.2.2.1 ⟨by rw [w.1]; exact h, w.2⟩)]
      exact a3 x hx
    · have hx' : u2 S.1 s 4 (some e) s' 4 = some x := hx
      unfold u2 at hx'
      by_cases q : s' = s
      · rw [if_pos ⟨q, rfl⟩] at hx'
        cases hx'
        exact he
      · rw [if_neg (fun w => q w.1)] at hx'
        exact b2 s' hs' x hx'
    · have hx' : u2 S.1 s 4 (some e) 97 4 = some x := hx
      unfold u2 at hx'
      by_cases q : 97 = s
      · rw [if_pos ⟨q, rfl⟩] at hx'
        cases hx'
        exact he
      · rw [if_neg (fun w => q w.1)] at hx'
        exact b3 x hx'
    · have ht' : u2 S.1 s 4 (some e) x 4 = some t := ht
      rw [u2_a _ _ _ _ (fun w => hse.1 (by rw [← w]; exact hx))] at ht'
      exact b5 x hx t ht'
  · obtain ⟨d1, d2, d3, d4, t1, t2, t3⟩ := c2
    refine ⟨d1, d2, d3, d4, fun t ht => ?_, fun t ht t' ht' q => ?_, fun i hi => ?_⟩
    · obtain ⟨f, a1, a2, a3⟩ := t1 t ht
      exact ⟨f, by rw [hn t 0 (by omega)]; exact a1, a2, a3⟩
    · rw [hn t 0 (by omega), hn t' 0 (by omega)] at q
      exact t2 t ht t' ht' q
    · have : (sR S s 4 e).1 (33 + 3 * i) 4 = S.1 (33 + 3 * i) 4 := u2_a _ _ _ _ (fun w => hse.1 (by rw [← w]; exact (by decide : ∀ i, i < 9 → 33 + 3 * i ∈ eKl) i hi))
      rw [this]
      exact t3 i hi
  · obtain ⟨l1, ⟨f, l2, l3⟩, l4⟩ := c3
    exact ⟨fun t ht => by rw [hfl]; exact l1 t ht, ⟨f, by rw [hn 30 2 (by omega)]; exact l2, l3⟩, by rw [hwl]; exact l4⟩
  · rcases c4 g b hg hb with w | w
    · exact Or.inl w
    · exact Or.inr (TE_sR w)
  · rcases c5 g k hg hk with w | w
    · exact Or.inl w
    · exact Or.inr (TS_sR w)
  · refine ⟨by omega, ?_, Nat.le_refl _, Nat.le_refl _⟩
    have : Phi (sR S s 4 e) = Phi S := by
      unfold Phi
      rw [hwl]
      simp only [hfl]
    rw [this]
    exact Nat.le_refl _
theorem eE_mem : ∀ g, g < 3 → ∀ b, b < 3 → 33 + 3 * (3 * g + b) ∈ eKl := by decide
theorem sS_mem : ∀ g, g < 3 → ∀ k, k < 4 → 61 + 3 * (4 * g + k) ∈ sKl := by decide
/-- what a call on the book's sights leaves -/
def Rq1 (M : Mt) (S : St) (m : Mm) (S' : St) (m' : Mm) (n : Nat) : Prop := CIb M S' m' ∧ FrC m m' ∧ Pay S S' n
theorem t_bookSight (hM : qOk M) (hE : qE M) (hN : 1000000 ≤ N) {S : St} {m : Mm} {g k : Nat} (hg : g < 3) (hk : k < 4) (hC : CIb M S m) : ∃ m' S', f_Book_sight N S (nI g) (nI k) m = some (61 + 3 * (4 * g + k), m', S') ∧ Rq1 M S m S' m' 4 ∧ Rdy M S' m' g k ∧ ¬ mI m' (62 + 3 * (4 * g + k)) 1 = 0 ∧ ∀ b', b' ≤ kbk M k → ¬ mI m' (34 + 3 * (3 * g + b')) 1 = 0 := by
  have hB := hM.2.2.2.1
  have hmem := tS_mem g hg k hk
  have hms : mst (62 + 3 * (4 * g + k)) = 34272 := by unfold mst; rw [if_neg (by omega)]
  obtain ⟨m1, S1, e1, r1⟩ := t_ready hN hmem (need := sta M (qD M) * mks M) (by rw [hms]; exact need_d hM hE) hC
  rw [hms] at e1
  have hkb := kbk_lt hM k
  obtain ⟨m2, S2, e2, r2, hTE, hfe⟩ := t_bookEnds hM hE hN hg hkb r1.1
  have hq := (r1.rdn hmem).trans r2
  have hfl : ¬ mI m2 (62 + 3 * (4 * g + k)) 1 = 0 := r2.2.2.2.2.2.1 _ hmem r1.2.1
  have hTS : TS M S2 m2 g k := (hq.1.2.2.2.2 g k hg hk).resolve_left hfl
  have hmE := eE_mem g hg _ hkb
  have hmS := sS_mem g hg k hk
  obtain ⟨h3, h4⟩ := CIb_sE (s := 61 + 3 * (4 * g + k)) (Or.inl hmS) hmE r2.1
  refine ⟨m2, sR S2 (61 + 3 * (4 * g + k)) 4 (33 + 3 * (3 * g + kbk M k)), ?_, ⟨h3, hq.2.1, (hq.2.2.1.trans h4).mono (by omega)⟩, ⟨u2_s _ _ _ _, fun b' hb' => TE_sR (hTE b' hb'), TS_sR hTS⟩, hfl, hfe⟩
  unfold f_Book_sight
  have ei : nI g * 4 + nI k = nI (4 * g + k) := by
    rw [show (4 : Int32) = nI 4 from rfl, pk_mul, nI_add, Nat.mul_comm]
  have ek : 61 + 3 * (4 * g + k) + 1 = 62 + 3 * (4 * g + k) := by omega
  have e3 : ∀ (K : Nat → Mm → St → Option (Nat × Mm × St)), (if nI k = 3 then b4 (f_Book_ends N S1 (nI g) (mI m1 10 3 + 1) m1) K else b4 (f_Book_ends N S1 (nI g) (mI m1 10 3 + 0) m1) K) = K (33 + 3 * (3 * g + kbk M k)) m2 S2 := by
    intro K
    have h10 := r1.1.2.1.1.2.2.2.1
    rw [h10]
    unfold kbk at e2 ⊢
    by_cases q : k = 3
    · rw [if_pos q] at e2 ⊢
      rw [if_pos (show nI k = 3 by rw [q]; rfl), nI_1, e2]
      rfl
    · rw [if_neg q] at e2 ⊢
      rw [if_neg (show ¬ nI k = 3 from fun w => q ((nI_eq (b := 3) (by omega) (by omega)).mp w)), show nI (qB M) + 0 = nI (qB M) from nI_add _ 0, e2]
      rfl
  rw [ei, ck_t (nI_in (show 4 * g + k < 12 by omega) (by omega)), nI_clamp (show 4 * g + k < 2 ^ 31 by omega), t_dayPlaces hM hC.2.1.2.2.1, b1_s, ek, show (34272 : Int32) = nI 34272 from rfl, e1]
  show ckc (ShC S1) _ = _
  rw [ckc_t r1.1.1, e3]
  show ckc (ShC S2) (ck _ _) = _
  rw [ckc_t r2.1.1, ck_t hmE]
  unfold f_Sight_endsBy
  simp only [jn]
  rw [ckc_t h3.1]
  show ckc (ShC _) _ = _
  rw [ckc_t h3.1]
end CBOOK
