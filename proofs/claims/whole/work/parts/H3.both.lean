/-! EVERY CALL, as the law makes it: both answer alike, and all stands as before. -/
theorem Phi_le {S : St} (h : LB S) : Phi S ≤ 3564288 := by
  unfold Phi
  have h1 : (tKl.map (fun t => pot (flen S t) (mst t))).sum ≤ (tKl.map (fun t => 3 * mst t)).sum := smt_le (fun t ht => pot_le (h.1 t ht))
  have h2 : (tKl.map (fun t => 3 * mst t)).sum = 3238704 := by decide
  have h3 := pot_le h.2.2
  omega
theorem Lg_00 : Lg mZero 0 := ⟨by decide, by decide, fun h hh => absurd hh (Nat.not_lt_zero _), fun s h hs hh q => absurd q ((by decide : ∀ s, s < 3 → ∀ h, h < 3 → ¬ 0 < am 0 s h) s hs h hh), by decide⟩
theorem NW_00 : NW mZero 0 0 none := ⟨Lg_00, by decide, by decide, by decide, fun s hs => (by cases hs)⟩
theorem REL_0 {S : St} {m mr : Mm} (h1 : CS0 S m ∧ WK m 0) (h2 : CW m 10 mZero) (h3 : mI m 0 6 = 0) (h4 : CN m 0 0 none) (h5 : mI m 0 1 = 0) (h6 : ∀ i, mX m 1 i = 0) (h7 : ∀ k, mX m 98 k = 0) (g1 : RW mr mZero) (g2 : mI mr 0 15 = 0) (g3 : RNw mr 0 0 none) (g4 : mI mr 0 1 = 0) (g5 : ∀ a i, mX mr a i = 0) : REL false mZero 0 0 none (fun _ => none) 0 S m mr :=
  ⟨⟨qOk_0, NW_00⟩, ⟨h1, h2, h3, h4⟩, ⟨g1, g2, g3⟩, fun k _ => ⟨h7 k, g5 13 k⟩, ⟨Nat.zero_le _, h5, g4, fun i _ => (h6 i).trans (g5 1 i).symm⟩, fun h => (by cases h), fun _ => ⟨rfl, rfl, rfl, fun _ _ => rfl⟩⟩
/-- what holds of the two memories when k calls were made -/
def Inw (k : Nat) (S : St) (m mr : Mm) : Prop := (∃ tl M c d w im len, REL tl M c d w im len S m mr ∧ stm im ≤ k) ∧ S.2.2.2.2.1 ≤ 101 + 12 * k ∧ S.2.2.2.2.2 ≤ 8097 + Phi S
theorem Inw.sh {k : Nat} {S : St} {m mr : Mm} (h : Inw k S m mr) : ShC S := by
  obtain ⟨⟨tl, M, c, d, w, im, len, h, _⟩, _⟩ := h
  exact h.2.1.1.1.1
theorem Inw.room {k : Nat} {S : St} {m mr : Mm} (h : Inw k S m mr) : S.2.2.2.2.1 ≤ 101 + 12 * k ∧ S.2.2.2.2.2 ≤ 3572385 := by
  obtain ⟨⟨tl, M, c, d, w, im, len, h, _⟩, h1, h2⟩ := h
  have := Phi_le h.2.1.1.1.2.2.2.2
  exact ⟨h1, by omega⟩
theorem Inw.nx {k : Nat} {S S' : St} {m mr m' mr' : Mm} (h : Inw k S m mr) {tl : Bool} {M : Mt} {c d : Nat} {w : Option Nat} {im : Nat → Option (Nat × Nat × Option Nat)} {len : Nat} (h1 : REL tl M c d w im len S' m' mr') (h2 : stm im ≤ k + 1) (h3 : Pay S S' 12) : Inw (k + 1) S' m' mr' := by
  obtain ⟨_, q1, q2⟩ := h
  obtain ⟨_, p2, p3, p4⟩ := h3
  exact ⟨⟨tl, M, c, d, w, im, len, h1, h2⟩, by omega, by omega⟩
theorem im_frame {N : Nat} {S : St} {x : Int32} {m m' : Mm} {r : Int32} (h : f_SC_image N S x m = some (r, m')) : m'.1 = m.1 ∧ ∀ a, a = 31 ∨ 101 ≤ a → m'.2.2.1 a = m.2.2.1 a := by
  unfold f_SC_image at h
  by_cases c1 : mI m 0 6 = 0
  · rw [if_pos c1] at h
    cases h
    exact ⟨rfl, fun _ _ => rfl⟩
  · rw [if_neg c1] at h
    by_cases c2 : x < 0
    · rw [if_pos c2] at h
      cases h
      exact ⟨rfl, fun _ _ => rfl⟩
    · rw [if_neg c2] at h
      by_cases c3 : x < 4
      · rw [if_pos c3] at h
        obtain ⟨_, h⟩ := ck_some h
        obtain ⟨_, h⟩ := ck_some h
        obtain ⟨_, h⟩ := ck_some h
        cases h
        refine ⟨rfl, fun a ha => ?_⟩
        funext j
        show u2 (u2 m.2.2.1 98 _ _) 100 _ _ a j = _
        rw [u2_a _ _ _ _ (by omega), u2_a _ _ _ _ (by omega)]
      · rw [if_neg c3] at h
        cases h
        exact ⟨rfl, fun _ _ => rfl⟩
theorem REL_im {tl : Bool} {M : Mt} {c d : Nat} {w : Option Nat} {im im' : Nat → Option (Nat × Nat × Option Nat)} {len : Nat} {S : St} {m mr : Mm} (h : REL tl M c d w im' len S m mr) (hw : WK m (stm im)) : ∃ im2, REL tl M c d w im2 len S m mr ∧ stm im2 = stm im := by
  obtain ⟨a1, a2, a3, a4, a5, a6, a7⟩ := h
  have e : stm (fun j => if j < 4 then im' j else im j) = stm im := by
    have q : (fun j => if j < 4 then im' j else im j) 4 = im 4 := if_neg (show ¬ (4 : Nat) < 4 by omega)
    unfold stm
    rw [q]
  refine ⟨fun j => if j < 4 then im' j else im j, ⟨a1, ⟨⟨a2.1.1, by rw [e]; exact hw⟩, a2.2⟩, a3, fun k hk => ?_, a5, a6, fun q => ⟨(a7 q).1, (a7 q).2.1, (a7 q).2.2.1, fun k hk => ?_⟩⟩, e⟩
  · show IMk M m mr k (if k < 4 then im' k else im k)
    rw [if_pos hk]
    exact a4 k hk
  · show (if k < 4 then im' k else im k) = none
    rw [if_pos hk]
    exact (a7 q).2.2.2 k hk
/-- both are called, and answer alike -/
def Bth (xs : Nat → Int32) (L k : Nat) (Sr S : St) (m mr : Mm) (mc mm : Nat) (vs : List Value) : Prop := ∃ r m' S' mr', Ev xs L true 100 mc (.ref 0 :: vs) (m, S) (some (.int r)) (m', S') ∧ Ev xs L true 100 mm (.ref 0 :: vs) (mr, Sr) (some (.int r)) (mr', Sr) ∧ Inw (k + 1) S' m' mr'
section BOTH
variable {xs : Nat → Int32} {L k : Nat} {Sr S : St} {m mr : Mm}
theorem bo_feed (hR : ShR Sr) (hI : Inw k S m mr) (hk : k < 1000) (x1 x2 x3 x4 x5 : Int32) : Bth xs L k Sr S m mr 13 144 [.int x1, .int x2, .int x3, .int x4, .int x5] := by
  obtain ⟨⟨tl, M, c, d, w, im, len, h, hs⟩, _, _⟩ := id hI
  have hSh := hI.sh
  obtain ⟨r, m1, mr1, l1, e1, e2, h1⟩ := st_feed (Nat.le_refl 1000000) h x1 x2 x3 x4 x5
  exact ⟨r, m1, S, mr1, e_SC_feed 1000000 (by omega) hSh e1, e_Mo_feed 1000000 (by omega) hR e2, hI.nx h1 (by omega) (Pay.refl.mono (by omega))⟩
theorem bo_end (hR : ShR Sr) (hI : Inw k S m mr) (hk : k < 1000) (x1 : Int32) : Bth xs L k Sr S m mr 15 145 [.int x1] := by
  obtain ⟨⟨tl, M, c, d, w, im, len, h, hs⟩, _, _⟩ := id hI
  have hSh := hI.sh
  obtain ⟨r, m1, mr1, l1, e1, e2, h1⟩ := st_end (N := 1000000) h x1
  exact ⟨r, m1, S, mr1, e_SC_end 1000000 (by omega) hSh e1, e_Mo_end 1000000 (by omega) hR e2, hI.nx h1 (by omega) (Pay.refl.mono (by omega))⟩
theorem bo_fault (hR : ShR Sr) (hI : Inw k S m mr) (hk : k < 1000) : Bth xs L k Sr S m mr 16 147 [] := by
  obtain ⟨⟨tl, M, c, d, w, im, len, h, hs⟩, _, _⟩ := id hI
  have hSh := hI.sh
  obtain ⟨r, m1, mr1, e1, e2, h1⟩ := st_fault (Nat.le_refl 1000000) h
  exact ⟨r, m1, S, mr1, e_SC_fault 1000000 (by omega) hSh e1, e_Mo_fault 1000000 (by omega) hR e2, hI.nx h1 (by omega) (Pay.refl.mono (by omega))⟩
theorem bo_matter (hR : ShR Sr) (hI : Inw k S m mr) (hk : k < 1000) : Bth xs L k Sr S m mr 42 169 [] := by
  obtain ⟨⟨tl, M, c, d, w, im, len, h, hs⟩, _, _⟩ := id hI
  have hSh := hI.sh
  obtain ⟨r, m1, mr1, tl1, M1, c1, d1, w1, im1, l1, e1, e2, h1, hs1⟩ := st_matter (Nat.le_refl 1000000) h
  exact ⟨r, m1, S, mr1, e_SC_matter 1000000 (by omega) hSh e1, e_Mo_matter 1000000 (by omega) hR e2, hI.nx h1 (by omega) (Pay.refl.mono (by omega))⟩
theorem bo_heir (hR : ShR Sr) (hI : Inw k S m mr) (hk : k < 1000) (x1 x2 : Int32) : Bth xs L k Sr S m mr 52 171 [.int x1, .int x2] := by
  obtain ⟨⟨tl, M, c, d, w, im, len, h, hs⟩, _, _⟩ := id hI
  have hSh := hI.sh
  obtain ⟨r, e1, e2⟩ := st_heir (Nat.le_refl 1000000) h x1 x2
  exact ⟨r, m, S, mr, e_SC_heir 1000000 (by omega) hSh e1, e_Mo_heir 1000000 (by omega) hR e2, hI.nx h (by omega) (Pay.refl.mono (by omega))⟩
theorem bo_alt (hR : ShR Sr) (hI : Inw k S m mr) (hk : k < 1000) (x1 x2 x3 : Int32) : Bth xs L k Sr S m mr 59 176 [.int x1, .int x2, .int x3] := by
  obtain ⟨⟨tl, M, c, d, w, im, len, h, hs⟩, _, _⟩ := id hI
  have hSh := hI.sh
  obtain ⟨r, e1, e2⟩ := st_alt (N := 1000000) h x1 x2 x3
  exact ⟨r, m, S, mr, e_SC_alt 1000000 (by omega) hSh e1, e_Mo_alt 1000000 (by omega) hR e2, hI.nx h (by omega) (Pay.refl.mono (by omega))⟩
theorem bo_come (hR : ShR Sr) (hI : Inw k S m mr) (hk : k < 1000) (x1 : Int32) : Bth xs L k Sr S m mr 62 178 [.int x1] := by
  obtain ⟨⟨tl, M, c, d, w, im, len, h, hs⟩, _, _⟩ := id hI
  have hSh := hI.sh
  obtain ⟨r, m1, mr1, c1, d1, w1, e1, e2, h1⟩ := st_come (N := 1000000) h x1
  exact ⟨r, m1, S, mr1, e_SC_come 1000000 (by omega) hSh e1, e_Mo_come 1000000 (by omega) hR e2, hI.nx h1 (by omega) (Pay.refl.mono (by omega))⟩
theorem bo_give (hR : ShR Sr) (hI : Inw k S m mr) (hk : k < 1000) (x1 : Int32) : Bth xs L k Sr S m mr 66 179 [.int x1] := by
  obtain ⟨⟨tl, M, c, d, w, im, len, h, hs⟩, _, _⟩ := id hI
  have hSh := hI.sh
  obtain ⟨r, m1, mr1, c1, d1, w1, e1, e2, h1⟩ := st_give (Nat.le_refl 1000000) h x1
  exact ⟨r, m1, S, mr1, e_SC_give 1000000 (by omega) hSh e1, e_Mo_give 1000000 (by omega) hR e2, hI.nx h1 (by omega) (Pay.refl.mono (by omega))⟩
theorem bo_reached (hR : ShR Sr) (hI : Inw k S m mr) (hk : k < 1000) (x1 : Int32) : Bth xs L k Sr S m mr 72 183 [.int x1] := by
  obtain ⟨⟨tl, M, c, d, w, im, len, h, hs⟩, _, _⟩ := id hI
  have hSh := hI.sh
  obtain ⟨r, m1, S1, mr1, e1, e2, h1, hp⟩ := st_reached (Nat.le_refl 1000000) h x1
  exact ⟨r, m1, S1, mr1, e_SC_reached 1000000 (by omega) hSh e1, e_Mo_reached 1000000 (by omega) hR e2, hI.nx h1 (by omega) hp⟩
theorem bo_sure (hR : ShR Sr) (hI : Inw k S m mr) (hk : k < 1000) (x1 : Int32) (z : Bool) : Bth xs L k Sr S m mr 96 192 [.int x1, .int (tf z)] := by
  obtain ⟨⟨tl, M, c, d, w, im, len, h, hs⟩, _, _⟩ := id hI
  have hSh := hI.sh
  obtain ⟨r, m1, S1, mr1, e1, e2, h1, hp⟩ := st_sure (Nat.le_refl 1000000) h x1 z
  exact ⟨r, m1, S1, mr1, e_SC_sure 1000000 (by omega) hSh e1, e_Mo_sure 1000000 (by omega) hR e2, hI.nx h1 (by omega) hp⟩
theorem bo_best (hR : ShR Sr) (hI : Inw k S m mr) (hk : k < 1000) (x1 : Int32) (z : Bool) : Bth xs L k Sr S m mr 109 201 [.int x1, .int (tf z)] := by
  obtain ⟨⟨tl, M, c, d, w, im, len, h, hs⟩, _, _⟩ := id hI
  have hSh := hI.sh
  obtain ⟨r, m1, S1, mr1, e1, e2, h1, hp⟩ := st_best (Nat.le_refl 1000000) h x1 z
  exact ⟨r, m1, S1, mr1, e_SC_best 1000000 (by omega) hSh e1, e_Mo_best 1000000 (by omega) hR e2, hI.nx h1 (by omega) hp⟩
theorem bo_proof (hR : ShR Sr) (hI : Inw k S m mr) (hk : k < 1000) (x1 x2 : Int32) : Bth xs L k Sr S m mr 111 202 [.int x1, .int x2] := by
  obtain ⟨⟨tl, M, c, d, w, im, len, h, hs⟩, _, _⟩ := id hI
  have hSh := hI.sh
  obtain ⟨r, m1, S1, mr1, e1, e2, h1, hp⟩ := st_proof (Nat.le_refl 1000000) h x1 x2
  exact ⟨r, m1, S1, mr1, e_SC_proof 1000000 (by omega) hSh e1, e_Mo_proof 1000000 (by omega) hR e2, hI.nx h1 (by omega) hp⟩
theorem bo_known (hR : ShR Sr) (hI : Inw k S m mr) (hk : k < 1000) (x1 x2 : Int32) : Bth xs L k Sr S m mr 113 203 [.int x1, .int x2] := by
  obtain ⟨⟨tl, M, c, d, w, im, len, h, hs⟩, _, _⟩ := id hI
  have hSh := hI.sh
  obtain ⟨r, m1, S1, mr1, e1, e2, h1, hp⟩ := st_known (Nat.le_refl 1000000) h x1 x2
  exact ⟨r, m1, S1, mr1, e_SC_known 1000000 (by omega) hSh e1, e_Mo_known 1000000 (by omega) hR e2, hI.nx h1 (by omega) hp⟩
theorem bo_cost (hR : ShR Sr) (hI : Inw k S m mr) (hk : k < 1000) (x1 : Int32) : Bth xs L k Sr S m mr 122 207 [.int x1] := by
  obtain ⟨⟨tl, M, c, d, w, im, len, h, hs⟩, _, _⟩ := id hI
  have hSh := hI.sh
  obtain ⟨r, m1, S1, mr1, im1, e1, e2, h1, hp, hs1⟩ := st_cost (Nat.le_refl 1000000) h (by omega) x1
  exact ⟨r, m1, S1, mr1, e_SC_cost 1000000 (by omega) hSh e1, e_Mo_cost 1000000 (by omega) hR e2, hI.nx h1 (by omega) hp⟩
theorem bo_fare (hR : ShR Sr) (hI : Inw k S m mr) (hk : k < 1000) (x1 x2 : Int32) (z : Bool) : Bth xs L k Sr S m mr 127 208 [.int x1, .int x2, .int (tf z)] := by
  obtain ⟨⟨tl, M, c, d, w, im, len, h, hs⟩, _, _⟩ := id hI
  have hSh := hI.sh
  obtain ⟨r, m1, S1, mr1, e1, e2, h1, hp⟩ := st_fare (Nat.le_refl 1000000) h x1 x2 z
  exact ⟨r, m1, S1, mr1, e_SC_fare 1000000 (by omega) hSh e1, e_Mo_fare 1000000 (by omega) hR e2, hI.nx h1 (by omega) hp⟩
theorem bo_mended (hR : ShR Sr) (hI : Inw k S m mr) (hk : k < 1000) (x1 x2 : Int32) : Bth xs L k Sr S m mr 133 212 [.int x1, .int x2] := by
  obtain ⟨⟨tl, M, c, d, w, im, len, h, hs⟩, _, _⟩ := id hI
  have hSh := hI.sh
  obtain ⟨r, m1, S1, mr1, e1, e2, h1, hp⟩ := st_mended (Nat.le_refl 1000000) h x1 x2
  exact ⟨r, m1, S1, mr1, e_SC_mended 1000000 (by omega) hSh e1, e_Mo_mended 1000000 (by omega) hR e2, hI.nx h1 (by omega) hp⟩
theorem bo_paper (hR : ShR Sr) (hI : Inw k S m mr) (hk : k < 1000) (x1 x2 : Int32) : Bth xs L k Sr S m mr 134 213 [.int x1, .int x2] := by
  obtain ⟨⟨tl, M, c, d, w, im, len, h, hs⟩, _, _⟩ := id hI
  have hSh := hI.sh
  obtain ⟨r, e1, e2⟩ := st_paper (Nat.le_refl 1000000) h x1 x2
  exact ⟨r, m, S, mr, e_SC_paper 1000000 (by omega) hSh e1, e_Mo_paper 1000000 (by omega) hR e2, hI.nx h (by omega) (Pay.refl.mono (by omega))⟩
theorem bo_judge (hR : ShR Sr) (hI : Inw k S m mr) (hk : k < 1000) (x1 x2 : Int32) : Bth xs L k Sr S m mr 136 214 [.int x1, .int x2] := by
  obtain ⟨⟨tl, M, c, d, w, im, len, h, hs⟩, _, _⟩ := id hI
  have hSh := hI.sh
  obtain ⟨r, mr1, e1, e2, h1⟩ := st_judge (Nat.le_refl 1000000) h x1 x2
  exact ⟨r, m, S, mr1, e_SC_judge 1000000 (by omega) hSh e1, e_Mo_judge 1000000 (by omega) hR e2, hI.nx h1 (by omega) (Pay.refl.mono (by omega))⟩
theorem bo_judged (hR : ShR Sr) (hI : Inw k S m mr) (hk : k < 1000) (x1 x2 x3 : Int32) : Bth xs L k Sr S m mr 138 215 [.int x1, .int x2, .int x3] := by
  obtain ⟨⟨tl, M, c, d, w, im, len, h, hs⟩, _, _⟩ := id hI
  have hSh := hI.sh
  obtain ⟨r, m1, S1, mr1, e1, e2, h1, hp⟩ := st_judged (Nat.le_refl 1000000) h x1 x2 x3
  exact ⟨r, m1, S1, mr1, e_SC_judged 1000000 (by omega) hSh e1, e_Mo_judged 1000000 (by omega) hR e2, hI.nx h1 (by omega) hp⟩
theorem bo_image (hR : ShR Sr) (hI : Inw k S m mr) (hk : k < 1000) (x1 : Int32) : Bth xs L k Sr S m mr 140 216 [.int x1] := by
  obtain ⟨⟨tl, M, c, d, w, im, len, h, hs⟩, _, _⟩ := id hI
  have hSh := hI.sh
  obtain ⟨r, m1, mr1, im1, e1, e2, h1⟩ := st_image (N := 1000000) h x1
  obtain ⟨f1, f2⟩ := im_frame e1
  obtain ⟨im2, h2, hs2⟩ := REL_im h1 (WK_f (by rw [f1]) (fun a i ha => Or.inl (by rw [f2 a ha])) h.2.1.1.2)
  exact ⟨r, m1, S, mr1, e_SC_image 1000000 (by omega) hSh e1, e_Mo_image 1000000 (by omega) hR e2, hI.nx h2 (by omega) (Pay.refl.mono (by omega))⟩
theorem bo_on (hR : ShR Sr) (hI : Inw k S m mr) (hk : k < 1000) (x1 : Int32) : Bth xs L k Sr S m mr 141 217 [.int x1] := by
  obtain ⟨⟨tl, M, c, d, w, im, len, h, hs⟩, _, _⟩ := id hI
  have hSh := hI.sh
  obtain ⟨r, m1, mr1, c1, d1, w1, e1, e2, h1⟩ := st_on (N := 1000000) h x1
  exact ⟨r, m1, S, mr1, e_SC_on 1000000 (by omega) hSh e1, e_Mo_on 1000000 (by omega) hR e2, hI.nx h1 (by omega) (Pay.refl.mono (by omega))⟩
theorem bo_count (hR : ShR Sr) (hI : Inw k S m mr) (hk : k < 1000) (x1 : Int32) : Bth xs L k Sr S m mr 142 218 [.int x1] := by
  obtain ⟨⟨tl, M, c, d, w, im, len, h, hs⟩, _, _⟩ := id hI
  have hSh := hI.sh
  obtain ⟨r, e1, e2⟩ := st_count (Nat.le_refl 1000000) h x1
  exact ⟨r, m, S, mr, e_SC_count 1000000 (by omega) hSh e1, e_Mo_count 1000000 (by omega) hR e2, hI.nx h (by omega) (Pay.refl.mono (by omega))⟩
end BOTH
