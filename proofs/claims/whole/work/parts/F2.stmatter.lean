/-! matter: the call. -/
def kM199 (N : Nat) (_ : Int32) (m23 : Mm) : Option (Int32 × Mm) := b3 (f_Mo_forgets N (vI (vI (vI m23 0 24 0) 0 25 ((-1))) 0 1 0)) fun m24 => some ((mI m24 0 16), m24)
def kM170 (N : Nat) (_ : Int32) (m20 : Mm) : Option (Int32 × Mm) := f_Mo_matter_L199 N (kM199 N) N 0 m20
def kM144 (N : Nat) (_ : Int32) (m16 : Mm) : Option (Int32 × Mm) := f_Mo_matter_L170 N (kM170 N) N 0 m16
def kM118 (N : Nat) (_ : Int32) (m12 : Mm) : Option (Int32 × Mm) := f_Mo_matter_L144 N (kM144 N) N 0 m12
def kM78 (N : Nat) (_ : Int32) (m8 : Mm) : Option (Int32 × Mm) := f_Mo_matter_L118 N (kM118 N) N 0 m8
def kM65 (N : Nat) (S : St) (_ : Int32) (m7 : Mm) : Option (Int32 × Mm) := b3 (f_Book_startAnew N S m7) fun m8 => some ((mI m8 10 0), m8)
section STMATTER
variable {N : Nat} {S : St} {M : Mt}
theorem Cop_x {a b n : Nat} {m m' : Mm} (h : Cop a b n m m') {c : Nat} (hc : c ≠ a) (i : Nat) : mX m' c i = mX m c i := by unfold mX; rw [h.2.2.1 c hc]
theorem CW_b {m m' : Mm} (h1 : ∀ k, m'.1 10 k = m.1 10 k) (h3 : ∀ a, 12 ≤ a ∧ a ≤ 16 → m'.2.2.1 a = m.2.2.1 a) (h : CW m 10 M) : CW m' 10 M := by
  have e10 : ∀ k, mI m' 10 k = mI m 10 k := h1
  have eX : ∀ a k, 12 ≤ a ∧ a ≤ 16 → mX m' a k = mX m a k := fun a k ha => by unfold mX; rw [h3 a ha]
  unfold CW at *
  simp only [e10, eX (10 + 2) _ (by omega), eX (10 + 3) _ (by omega), eX (10 + 4) _ (by omega), eX (10 + 5) _ (by omega), eX (10 + 6) _ (by omega)]
  exact h
theorem FX_3 {m m' : Mm} (h1 : ∀ a, 30 < a → m'.1 a 3 = m.1 a 3) (h : FX m) : FX m' := ⟨fun i hi => (h1 _ (by omega)).trans (h.1 i hi), fun i hi => (h1 _ (by omega)).trans (h.2 i hi)⟩
/-- the other tells the matter -/
theorem R_matter (hN : 1000000 ≤ N) {m mr : Mm} {x : Nat} (hD : DR x M m mr) (hE : qE M) : ∃ m', f_Mo_matter_L78 N (kM78 N) N 0 (vJ (vI (vI (vI (vI (vI mr 0 15 1) 0 16 ((mI mr 0 6))) 0 18 ((mI mr 0 10))) 0 21 (nI (qO M))) 0 22 (nI (qB M))) 0 23 0) = some (nI (qH M), m') ∧ RW m' M ∧ mI m' 0 15 = 1 ∧ RNw m' (cfi M) 0 none ∧ (∀ k, k < 4 → mX m' 13 k = 0) ∧ mI m' 0 1 = 0 ∧ (∀ i, mX m' 1 i = mX mr 1 i) ∧ RE m' M := by
  have hM := hD.1.2.1
  have hH := hM.1
  generalize hr2 : vJ (vI (vI (vI (vI (vI mr 0 15 1) 0 16 ((mI mr 0 6))) 0 18 ((mI mr 0 10))) 0 21 (nI (qO M))) 0 22 (nI (qB M))) 0 23 0 = r2
  have f15 : mI r2 0 15 = 1 := by rw [← hr2]; rfl
  have f16 : mI r2 0 16 = nI (qH M) := by rw [← hr2]; exact hD.1.2.2.1
  have f18 : mI r2 0 18 = nI (qD M) := by rw [← hr2]; exact hD.1.2.2.2
  have f21 : mI r2 0 21 = nI (qO M) := by rw [← hr2]; rfl
  have f22 : mI r2 0 22 = nI (qB M) := by rw [← hr2]; rfl
  have f23 : mJ r2 0 23 = 0 := by rw [← hr2]; rfl
  have fX : r2.2.2 = mr.2.2 := by rw [← hr2]; rfl
  have gX : ∀ a i, mX r2 a i = mX mr a i := fun a i => by unfold mX; rw [fX]
  obtain ⟨r3, a1, a2, a3, a4⟩ := r_78 (N := N) hM (by omega) f16 (fun i hi => (gX 3 i).trans (hD.2.2.1 i hi)) f23 (kM78 N)
  obtain ⟨r4, b1', b2'⟩ := r_118 (N := N) (m := r3) (by omega) (kM118 N)
  obtain ⟨r5, c1, c2⟩ := r_144 (N := N) (m := r4) (by omega) (kM144 N)
  obtain ⟨r6, d1, d2⟩ := r_170 (N := N) (m := r5) (by omega) (kM170 N)
  obtain ⟨r7, e1, e2, e3, e4, e5, e6⟩ := r_199 (N := N) (m := r6) (by omega) (kM199 N)
  obtain ⟨r8, g1, g2, g3, g4, g5, g6⟩ := r_forget (N := N) (m := vI (vI (vI r7 0 24 0) 0 25 ((-1))) 0 1 0) hN M
  have eI : ∀ k, ¬ (k = 1 ∨ k = 24 ∨ k = 25 ∨ k = 33) → mI r8 0 k = mI r2 0 k := fun k hk => by
    have : mI r8 0 k = mI r7 0 k := by
      refine (g3 0 k (by omega)).trans ?_
      exact (mI_n (by omega)).trans ((mI_n (by omega)).trans (mI_n (by omega)))
    rw [this]
    unfold mI
    rw [e2, d2.1, c2.1, b2'.1, a2]
  have eX8 : ∀ a i, mX r8 a i = mX r7 a i := fun a i => by unfold mX; rw [g5]; rfl
  have eX7 : ∀ a i, a ≠ 13 → mX r7 a i = mX r6 a i := fun a i ha => by unfold mX; rw [e4 a ha]
  have eX3 : ∀ a i, mX r3 a i = mX mr a i := fun a i => by unfold mX; rw [a3, fX]
  refine ⟨r8, ?_, ⟨?_, ?_, ?_, ?_, fun h s hh hs => ?_, fun d hd => ?_, fun d a hd ha => ?_⟩, ?_, ⟨?_, ?_, ?_⟩, fun k hk => (eX8 13 k).trans (e6 k hk), ?_, fun i => ?_, g2⟩
  · rw [a1]
    show f_Mo_matter_L118 N (kM118 N) N 0 r3 = _
    rw [b1']
    show f_Mo_matter_L144 N (kM144 N) N 0 r4 = _
    rw [c1]
    show f_Mo_matter_L170 N (kM170 N) N 0 r5 = _
    rw [d1]
    show f_Mo_matter_L199 N (kM199 N) N 0 r6 = _
    rw [e1]
    show b3 (f_Mo_forgets N (vI (vI (vI r7 0 24 0) 0 25 ((-1))) 0 1 0)) _ = _
    rw [g1, b3_s, eI 16 (by omega), f16]
  · rw [eI 16 (by omega)]; exact f16
  · rw [eI 18 (by omega)]; exact f18
  · rw [eI 21 (by omega)]; exact f21
  · rw [eI 22 (by omega)]; exact f22
  · rw [eX8, eX7 _ _ (by omega), Cop_x d2 (by omega), Cop_x c2 (by omega), b2'.2.2.2.2 _ (by omega), eX3]
    exact hD.2.2.2.1 h s hh hs
  · have := hM.2.1
    rw [eX8, eX7 _ _ (by omega), Cop_x d2 (by omega), c2.2.2.2.2 _ (by omega), Cop_x b2' (by omega), eX3]
    exact hD.2.2.2.2.1 d hd
  · have := hM.2.1
    have hA := hM.2.2.2.2.2.2.1 d hd
    have e9 : ∀ i, i < 54 → mX r8 9 i = mX mr 6 i := fun i hi => by rw [eX8, eX7 _ _ (by omega), d2.2.2.2.2 _ hi, Cop_x c2 (by omega), Cop_x b2' (by omega), eX3]
    rw [e9 _ (by omega), e9 _ (by omega), e9 _ (by omega)]
    exact hD.2.2.2.2.2.1 d a hd ha
  · rw [eI 15 (by omega)]; exact f15
  · unfold mJ
    rw [g4]
    show r7.2.1 0 23 = _
    rw [e3, d2.2.1, c2.2.1, b2'.2.1]
    exact a4
  · exact (g3 0 24 (by omega)).trans ((mI_n (by omega)).trans ((mI_n (by omega)).trans mI_s))
  · exact (g3 0 25 (by omega)).trans ((mI_n (by omega)).trans mI_s)
  · exact (g3 0 1 (by omega)).trans mI_s
  · rw [eX8, eX7 _ _ (by omega), Cop_x d2 (by omega), Cop_x c2 (by omega), Cop_x b2' (by omega), eX3]
variable {tl : Bool} {c d len : Nat} {w : Option Nat} {im : Nat → Option (Nat × Nat × Option Nat)} {m mr : Mm}
theorem st_matter (hN : 1000000 ≤ N) (h : REL tl M c d w im len S m mr) : ∃ r m' mr' tl' M' c' d' w' im' len', f_SC_matter N S m = some (r, m') ∧ f_Mo_matter N mr = some (r, mr') ∧ REL tl' M' c' d' w' im' len' S m' mr' ∧ stm im' = stm im := by
  obtain ⟨t1, t2, t3, t4⟩ := h.2.2.2.2.1
  obtain ⟨r1, m1, mr1, i1, i2, i3, i4, _⟩ := fault_sim (N := N) (S := S) (x := 3) (Or.inl rfl) (by omega) t1 t3 t4
  by_cases q : r1 = -1
  · subst q
    have eX1 : ∀ i, mX m1 1 i = mX m 1 i := fun i => by unfold mX; rw [i3.2.2.1 1 (by omega)]
    obtain ⟨r3, m3, mr3, j1, j2, j3, j4, j5⟩ := fault_sim (N := N) (S := S) (x := 10) (m := m1) (Or.inr rfl) (by omega) t1 t3 (fun i hi => by rw [eX1]; exact t4 i hi)
    rw [i2] at j2
    have ej := Option.some.inj j2
    have er : r3 = -1 := (congrArg Prod.fst ej).symm
    have em : mr3 = mr1 := (congrArg Prod.snd ej).symm
    subst er
    subst em
    obtain ⟨M', hD, hE⟩ := j5 rfl
    have hM := hD.1.2.1
    obtain ⟨mr8, k1, k2, k3, k4, k5, k6, k7, k8⟩ := R_matter hN hD hE
    have eR : f_Mo_matter N mr = some (nI (qH M'), mr8) := by
      unfold f_Mo_matter
      rw [i2, b2_s, if_pos rfl]
      simp only [jn]
      have es3 : ∀ (F : Int32 → Option (Int32 × Mm)), (if mI mr3 0 13 = -1 then F 0 else F (mI mr3 0 13)) = F (nI (qO M')) := fun F => by
        rcases hD.2.2.2.2.2.2.1 with ⟨_, z1, z2⟩ | ⟨_, z1⟩
        · rw [if_pos z1, z2]; rfl
        · have := hM.2.2.1
          rw [if_neg (by rw [z1]; exact nI_m1 (by omega)), z1]
      have es4 : ∀ (F : Int32 → Option (Int32 × Mm)), (if mI mr3 0 14 = -1 then F 0 else F (mI mr3 0 14)) = F (nI (qB M')) := fun F => by
        rcases hD.2.2.2.2.2.2.2 with ⟨_, z1, z2⟩ | ⟨_, z1⟩
        · rw [if_pos z1, z2]; rfl
        · have := hM.2.2.2.1
          rw [if_neg (by rw [z1]; exact nI_m1 (by omega)), z1]
      refine Eq.trans (es3 (fun s3 => if mI mr3 0 14 = -1 then f_Mo_matter_L78 N (kM78 N) N 0 (vJ (vI (vI (vI (vI (vI mr3 0 15 1) 0 16 ((mI mr3 0 6))) 0 18 ((mI mr3 0 10))) 0 21 s3) 0 22 0) 0 23 0) else f_Mo_matter_L78 N (kM78 N) N 0 (vJ (vI (vI (vI (vI (vI mr3 0 15 1) 0 16 ((mI mr3 0 6))) 0 18 ((mI mr3 0 10))) 0 21 s3) 0 22 (mI mr3 0 14)) 0 23 0))) ?_
      exact Eq.trans (es4 (fun s4 => f_Mo_matter_L78 N (kM78 N) N 0 (vJ (vI (vI (vI (vI (vI mr3 0 15 1) 0 16 ((mI mr3 0 6))) 0 18 ((mI mr3 0 10))) 0 21 (nI (qO M'))) 0 22 s4) 0 23 0))) k1
    -- the class
    have hW3 := hD.1.1
    have hW4 : CW (vI (vI m3 0 1 0) 0 6 1) 10 M' := CW_f (m := m3) (fun k => (mI_n (m := vI m3 0 1 0) (by omega)).trans (mI_n (m := m3) (by omega))) (fun _ _ => rfl) hW3
    have ef := t_first (N := N) (S := S) hM hW4
    generalize hm5 : vI (vJ (vI (vI m3 0 1 0) 0 6 1) 0 7 (cs (cfi M') 0)) 0 8 ((-1)) = m5
    have g1 : mI m5 0 1 = 0 := by rw [← hm5]; rfl
    have g6 : mI m5 0 6 = 1 := by rw [← hm5]; rfl
    have g8 : mI m5 0 8 = -1 := by rw [← hm5]; rfl
    have g7 : mJ m5 0 7 = cs (cfi M') 0 := by rw [← hm5]; exact mJ_s
    have go : ∀ a k, a ≠ 0 → m5.1 a k = m3.1 a k := fun a k ha => by
      rw [← hm5]
      show u2 (u2 (u2 m3.1 0 1 0) 0 6 1) 0 8 (-1) a k = _
      rw [u2_a _ _ _ _ ha, u2_a _ _ _ _ ha, u2_a _ _ _ _ ha]
    have gx : m5.2.2 = m3.2.2 := by rw [← hm5]; rfl
    obtain ⟨m6, l1, l2, l3, l4, l5, l6⟩ := t_98 (N := N) (S := S) (m := m5) (by omega) (kM65 N S)
    have hW6 : CW m6 10 M' := CW_f (m := m3) (fun k => by rw [l2]; exact go 10 k (by omega)) (fun a ha => by rw [l4 a (by omega), gx]) hW3
    have frame3 : ∀ a, (a = 1 ∨ 17 ≤ a) → m3.2.2.1 a = m.2.2.1 a := fun a ha => (j3.2.2.1 a (by omega)).trans (i3.2.2.1 a (by omega))
    have hK6 : RKm m6 := RKm_g (m := m) (fun a ha => by rw [l4 a (by omega), gx]; exact frame3 a (by omega)) h.2.1.1.1.2.1
    obtain ⟨m7, n1, n2, n3, n4, n5⟩ := t_anew (N := N) (S := S) hM (by omega) hW6 hK6
    have hW7 : CW m7 10 M' := CW_b (m := m6) (fun k => n3.1 10 k (by omega) (by omega)) (fun a ha => n3.2.2.1 a (by omega)) hW6
    have eC : f_SC_matter N S m = some (nI (qH M'), m7) := by
      unfold f_SC_matter
      have e01 : mI m1 0 1 = nI len := (i3.1 0 1 (by omega) (by omega)).trans t2
      rw [t2, i1, b2_s, if_pos rfl, e01, j1, b2_s, ef, b1_s, hm5]
      show f_SC_matter_L65 N S (kM65 N S) N 0 m5 = _
      rw [l1]
      show b3 (f_Book_startAnew N S m6) _ = _
      rw [n1, b3_s, hW7.1]
    have fr1 : ∀ a, 30 ≤ a → ∀ k, k = 3 → m7.1 a k = m.1 a k := fun a ha k hk => by
      rw [n3.1 a k (by omega) (by omega), l2, go a k (by omega), j3.1 a k (by omega) (by omega), i3.1 a k (by omega) (by omega)]
    have frX : ∀ a, a = 1 ∨ 29 ≤ a → a ≠ 98 → m7.2.2.1 a = m.2.2.1 a := fun a ha h98 => by
      rw [n3.2.2.1 a (by omega), l4 a h98, gx]
      exact frame3 a (by omega)
    have hK7 : RKm m7 := RKm_g (m := m6) (fun a ha => n3.2.2.1 a (by omega)) hK6
    have hF7 : FX m7 := FX_3 (m := m) (fun a ha => fr1 a (by omega) 3 rfl) h.2.1.1.1.2.2.1
    have hC7 : CIb M' S m7 := ⟨h.2.1.1.1.1, ⟨hW7, hK7, n2, hF7, h.2.1.1.1.2.2.2.1⟩, h.2.1.1.1.2.2.2.2, fun g b hg hb => Or.inl (n4 (3 * g + b) (by omega)), fun g k hg hk => Or.inl (n5 (4 * g + k) (by omega))⟩
    have z1 : mI m7 0 1 = nI 0 := (n3.1 0 1 (by omega) (by omega)).trans ((show m6.1 0 1 = m5.1 0 1 by rw [l2]).trans g1)
    have z6 : mI m7 0 6 = tf true := (n3.1 0 6 (by omega) (by omega)).trans ((show m6.1 0 6 = m5.1 0 6 by rw [l2]).trans g6)
    have z8 : mI m7 0 8 = zOpt none := (n3.1 0 8 (by omega) (by omega)).trans ((show m6.1 0 8 = m5.1 0 8 by rw [l2]).trans g8)
    have z7 : mJ m7 0 7 = cs (cfi M') 0 := by
      unfold mJ
      rw [n3.2.1, l3]
      exact g7
    have hst : stm (fun k => if k = 4 then im 4 else none) = stm im := rfl
    refine ⟨_, m7, mr8, true, M', cfi M', 0, none, fun k => if k = 4 then im 4 else none, 0, eC, eR, ⟨⟨hM, NW_0 hM⟩, ⟨⟨hC7.cs0, ?_⟩, hW7, z6, z7, z8⟩, ⟨k2, k3, k4⟩, fun k hk => ?_, ⟨by omega, z1, k6, fun i hi => ?_⟩, fun _ => ⟨hE, hC7, k8⟩, fun q => by cases q⟩, hst⟩
    · rw [hst]
      exact WK_f (fr1 30 (by omega) 3 rfl) (fun a i ha => Or.inl (by rw [frX a (by omega) (by omega)])) h.2.1.1.2
    · have e : (if k = 4 then im 4 else none) = none := if_neg (by omega)
      show IMk M' m7 mr8 k (if k = 4 then im 4 else none)
      rw [e]
      refine ⟨?_, k5 k hk⟩
      have : mX m7 98 k = mX m6 98 k := by unfold mX; rw [n3.2.2.1 98 (by omega)]
      rw [this]
      exact l6 k hk
    · rw [k7]
      have e1 : mX m7 1 i = mX m 1 i := by unfold mX; rw [frX 1 (by omega) (by omega)]
      have e2 : mX mr3 1 i = mX mr 1 i := by unfold mX; rw [i4.2.2.1 1 (by omega)]
      rw [e1, e2]
      exact t4 i hi
  · refine ⟨-1, m1, mr1, tl, M, c, d, w, im, len, ?_, ?_, REL_rd h i3 i4, rfl⟩
    · unfold f_SC_matter
      rw [t2, i1, b2_s, if_neg q]
    · unfold f_Mo_matter
      rw [i2, b2_s, if_neg q]
end STMATTER
