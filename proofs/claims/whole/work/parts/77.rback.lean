/-! THE REFERENCE: things taken back. -/
def iz (v : Int) : Int32 := Int32.ofInt v
def sm3 (v : Int) : Prop := -1000000000 ≤ v ∧ v ≤ 1000000000
theorem iz_t {v : Int} (h : sm3 v) : (iz v).toInt = v := Int32.toInt_ofInt_of_le (by have := h.1; omega) (by have := h.2; omega)
theorem iz_le {a b : Int} (ha : sm3 a) (hb : sm3 b) : iz a ≤ iz b ↔ a ≤ b := by rw [Int32.le_iff_toInt_le, iz_t ha, iz_t hb]
theorem iz_lt {a b : Int} (ha : sm3 a) (hb : sm3 b) : iz a < iz b ↔ a < b := by rw [Int32.lt_iff_toInt_lt, iz_t ha, iz_t hb]
theorem iz_eq {a b : Int} (ha : sm3 a) (hb : sm3 b) : iz a = iz b ↔ a = b := by rw [← Int32.toInt_inj, iz_t ha, iz_t hb]
theorem iz_gv (M : Mt) (g c : Nat) : gv M g c = iz (gz M g c) := (Int32.ofInt_toInt _).symm
theorem sm3_s {v : Int} (h : -6 ≤ v ∧ v ≤ 3000) : sm3 v := ⟨by omega, by omega⟩
theorem iz_64 {v : Int} (h : sm3 v) : (iz v).toInt64 = lz v := by rw [lz_32, iz_t h]
theorem lz_i {v : Int} : (lz v).toInt32 = iz v := Int64.toInt32_ofInt
theorem BK_up : ∀ (b : Nat) {c c' : Nat}, BK b c c' → BK (b + 1) c c' := fun _ _ _ h => Or.inl h
theorem BK_alt : ∀ (b c c' : Nat), BK (b + 1) c c' ↔ c' = c ∨ ∃ s f t, s < 3 ∧ f < 3 ∧ t < 3 ∧ f ≠ t ∧ 0 < am c s f ∧ cb c t = true ∧ BK b (mvd c s f t) c'
  | 0, c, c' => Iff.rfl
  | b + 1, c, c' => by
    have ih := BK_alt b c c'
    constructor
    · rintro (h | h)
      · rcases ih.mp h with h | ⟨s, f, t, a1, a2, a3, a4, a5, a6, h⟩
        · exact Or.inl h
        · exact Or.inr ⟨s, f, t, a1, a2, a3, a4, a5, a6, BK_up b h⟩
      · exact Or.inr h
    · rintro (h | h)
      · exact Or.inl (ih.mpr (Or.inl h))
      · exact Or.inr h
theorem EV_alt {M : Mt} {g b c : Nat} (h6 : tt c ≤ 6) (h : hl c = 0) (v : Int) : EV M g (b + 1) c v ↔ v = gz M g c ∨ ∃ s f t, s < 3 ∧ f < 3 ∧ t < 3 ∧ f ≠ t ∧ 0 < am c s f ∧ cb c t = true ∧ EV M g b (mvd c s f t) v := by
  constructor
  · intro ⟨c1, c2, h1, h2, h3⟩
    rw [h] at h1
    have e1 : c1 = c := h1
    subst e1
    rcases (BK_alt b c1 c2).mp h2 with h2 | ⟨s, f, t, hs, hf, ht, hn, h0, hb, h2⟩
    · rw [h2] at h3
      exact Or.inl h3
    · exact Or.inr ⟨s, f, t, hs, hf, ht, hn, h0, hb, mvd c1 s f t, c2, by rw [hl_mvd h6 hs hf ht h0, h]; rfl, h2, h3⟩
  · rintro (h3 | ⟨s, f, t, hs, hf, ht, hn, h0, hb, c1, c2, h1, h2, h3⟩)
    · exact ⟨c, c, by rw [h]; rfl, (BK_alt b c c).mpr (Or.inl rfl), h3⟩
    · rw [hl_mvd h6 hs hf ht h0, h] at h1
      have e1 : c1 = mvd c s f t := h1
      subst e1
      exact ⟨c, c2, by rw [h]; rfl, (BK_alt b c c2).mpr (Or.inr ⟨s, f, t, hs, hf, ht, hn, h0, hb, h2⟩), h3⟩
/-- what is looked at before owner h, sort k, taker t -/
def PR (M : Mt) (g b c h k t : Nat) (v : Int) : Prop := v = gz M g c ∨ ∃ s f t', s < 3 ∧ f < 3 ∧ t' < 3 ∧ f ≠ t' ∧ 0 < am c s f ∧ cb c t' = true ∧ EV M g b (mvd c s f t') v ∧ (f < h ∨ f = h ∧ (s < k ∨ s = k ∧ t' < t))
section PRS
variable {M : Mt} {g b c h k t : Nat} {x : Int}
theorem PR_sm (hM : qOk M) (hL : Lg M c) {v : Int} (q : PR M g b c h k t v) : -6 ≤ v ∧ v ≤ 3000 := by
  rcases q with q | ⟨s', f', t', a1, a2, a3, a4, a5, a6, a7, a8⟩
  · rw [q]; exact gz_b hM hL
  · exact EV_b hM (Lg_mvd hL a1 (by omega) a3 a5 a6) a7
theorem PR_c {h' k' t' : Nat} (e : ∀ s f u, s < 3 → f < 3 → u < 3 → f ≠ u → 0 < am c s f → cb c u = true → ((f < h ∨ f = h ∧ (s < k ∨ s = k ∧ u < t)) ↔ (f < h' ∨ f = h' ∧ (s < k' ∨ s = k' ∧ u < t')))) (hx : isG (PR M g b c h k t) x) : isG (PR M g b c h' k' t') x := by
  refine isG_c (fun w => ⟨fun hw => ?_, fun hw => ?_⟩) hx
  · rcases hw with hw | ⟨s', f', t', a1, a2, a3, a4, a5, a6, a7, a8⟩
    · exact Or.inl hw
    · exact Or.inr ⟨s', f', t', a1, a2, a3, a4, a5, a6, a7, (e s' f' t' a1 a2 a3 a4 a5 a6).mp a8⟩
  · rcases hw with hw | ⟨s', f', t', a1, a2, a3, a4, a5, a6, a7, a8⟩
    · exact Or.inl hw
    · exact Or.inr ⟨s', f', t', a1, a2, a3, a4, a5, a6, a7, (e s' f' t' a1 a2 a3 a4 a5 a6).mpr a8⟩
theorem PR_eq (hx : isG (PR M g b c h k 0) x) (ht : t = h) : isG (PR M g b c h k 0) x := hx
theorem PR_skip1 (e : t = h) (hx : isG (PR M g b c h k t) x) : isG (PR M g b c h k (t + 1)) x := PR_c (fun s f u _ _ _ h4 _ _ => by omega) hx
theorem PR_skip2 (e : cb c t = false) (hx : isG (PR M g b c h k t) x) : isG (PR M g b c h k (t + 1)) x := PR_c (fun s f u _ _ _ h4 _ h6 => by
  by_cases q : u = t
  · rw [q, e] at h6; cases h6
  · omega) hx
theorem PR_rowskip (hL : Lg M c) (h3 : h < 3) (hk : k < 3) (e : cb c h = false ∨ am c k h = 0) (hx : isG (PR M g b c h k 0) x) : isG (PR M g b c h (k + 1) 0) x := PR_c (fun s f u h1 _ _ h4 h5 h6 => by
  by_cases q : f = h ∧ s = k
  · obtain ⟨rfl, rfl⟩ := q
    rcases e with e | e
    · rw [hL.2.2.2.1 s f h1 h3 h5] at e; cases e
    · omega
  · omega) hx
theorem PR_row (hx : isG (PR M g b c h k 3) x) : isG (PR M g b c h (k + 1) 0) x := PR_c (fun s f u _ _ _ _ _ _ => by omega) hx
theorem PR_row2 (hx : isG (PR M g b c h 3 0) x) : isG (PR M g b c (h + 1) 0 0) x := PR_c (fun s f u _ _ _ _ _ _ => by omega) hx
theorem PR_add (hM : qOk M) (hE : qE M) (hL : Lg M c) (h3 : h < 3) (hk : k < 3) (ht : t < 3) (hn : t ≠ h) (h0 : 0 < am c k h) (hb : cb c t = true) (hx : isG (PR M g b c h k t) x) : isG (PR M g b c h k (t + 1)) (if gE M g b (mvd c k h t) ≤ x then x else gE M g b (mvd c k h t)) := by
  have := isG_or hx (gE_is hM hE (g := g) (b := b) (Lg_mvd hL hk (f := h) (by omega) ht h0 hb))
  have e : (if gE M g b (mvd c k h t) ≤ x then x else gE M g b (mvd c k h t)) = (if gE M g b (mvd c k h t) < x then x else gE M g b (mvd c k h t)) := by
    by_cases q : gE M g b (mvd c k h t) < x
    · rw [if_pos q, if_pos (by omega)]
    · rw [if_neg q]
      split <;> omega
  rw [e]
  refine isG_c (fun w => ⟨fun hw => ?_, fun hw => ?_⟩) this
  · rcases hw with (hw | ⟨s', f', t', a1, a2, a3, a4, a5, a6, a7, a8⟩) | hw
    · exact Or.inl hw
    · exact Or.inr ⟨s', f', t', a1, a2, a3, a4, a5, a6, a7, by omega⟩
    · exact Or.inr ⟨k, h, t, hk, h3, ht, fun w => hn w.symm, h0, hb, hw, by omega⟩
  · rcases hw with hw | ⟨s', f', t', a1, a2, a3, a4, a5, a6, a7, a8⟩
    · exact Or.inl (Or.inl hw)
    · by_cases q : f' = h ∧ s' = k ∧ t' = t
      · obtain ⟨rfl, rfl, rfl⟩ := q
        exact Or.inr a7
      · exact Or.inl (Or.inr ⟨s', f', t', a1, a2, a3, a4, a5, a6, a7, by omega⟩)
theorem PR_end (hM : qOk M) (hE : qE M) (hL : Lg M c) (hh : hl c = 0) (hx : isG (PR M g b c 3 0 0) x) : x = gE M g (b + 1) c := by
  refine isG_u (isG_c (fun w => ?_) hx) (gE_is hM hE hL)
  rw [EV_alt hL.2.2.2.2 hh]
  constructor
  · rintro (hw | ⟨s', f', t, a1, a2, a3, a4, a5, a6, a7, a8⟩)
    · exact Or.inl hw
    · exact Or.inr ⟨s', f', t, a1, a2, a3, a4, a5, a6, a7⟩
  · rintro (hw | ⟨s', f', t, a1, a2, a3, a4, a5, a6, a7⟩)
    · exact Or.inl hw
    · exact Or.inr ⟨s', f', t, a1, a2, a3, a4, a5, a6, a7, Or.inl a2⟩
theorem PR_start (M : Mt) (g b c : Nat) : isG (PR M g b c 0 0 0) (gz M g c) := ⟨Or.inl rfl, fun w hw => by
  rcases hw with hw | ⟨s', f', t, a1, a2, a3, a4, a5, a6, a7, a8⟩
  · omega
  · omega⟩
end PRS
theorem rz_mvd {M : Mt} {c k h t : Nat} (hL : Lg M c) (hk : k < 3) (hh : h < 4) (ht : t < 3) (h0 : 0 < am c k h) : rz c - lN (8 ^ (3 * h + k)) + lN (8 ^ (3 * t + k)) = rz (mvd c k h t) := by
  have h1 := tt_sub hk hh h0
  have h2 := hL.2.2.2.2
  rw [rz_sub hL.1 hk hh h0, rz_add (Nat.lt_of_le_of_lt (Nat.sub_le _ _) hL.1) hk (by omega) (am7 hk (by omega) (by omega))]
  rfl
section TWICE
variable {N : Nat} {m : Mm} {M : Mt} {c g : Nat}

theorem tR_twice3 (hM : qOk M) (hE : qE M) (hW : RW m M) (hL : Lg M c) (hh : hl c = 0) (hN : 100 ≤ N) (hg : g < 3)  {h k : Nat} (h3 : h < 3) (hk : k < 3) (hb : cb c h = true) (h0 : 0 < am c k h) (K : Int32 → Int32 → Option Int32) {x : Int} (hx : isG (PR M g 0 c h k 0) x) : ∃ y, isG (PR M g 0 c h (k + 1) 0) y ∧ f_Mo_twice_L52 N (rz c) (nI g) (nI h) (nI k) m K N (iz x) 0 = K (iz y) 3 := by
  have hH := hM.1
  obtain ⟨y, hy, e⟩ := loopE (fun n (a : Int) j => f_Mo_twice_L52 N (rz c) (nI g) (nI h) (nI k) m K n (iz a) (nI j)) (fun a j => isG (PR M g 0 c h k j) a) 3 (fun a => K (iz a) 3) (fun n a j hj ha => by
    show ∃ a', _ ∧ f_Mo_twice_L52 N (rz c) (nI g) (nI h) (nI k) m K (n + 1) (iz a) (nI j) = _
    rw [f_Mo_twice_L52, if_neg (n3nle hj)]
    by_cases e1 : j = h
    · exact ⟨a, PR_skip1 e1 ha, by rw [if_pos (by rw [e1]), nI_1]⟩
    · rw [if_neg (fun w => e1 ((nI_eq (by omega) (by omega)).mp w)), t_MhasCome (by omega), b1_s]
      cases e2 : cb c j
      · exact ⟨a, PR_skip2 e2 ha, by rw [if_pos (by simp [tf]), nI_1]⟩
      · have hL' := Lg_mvd hL hk (f := h) (by omega) hj h0 e2
        have hh' := hl_mvd (t := j) hL.2.2.2.2 hk h3 hj h0
        have hs1 := sm3_s (PR_sm hM hL ha.1)
        have hs2 := sm3_s (gE_b hM hE (g := g) (b := 0) hL')
        refine ⟨_, PR_add hM hE hL h3 hk hj e1 h0 e2 ha, ?_⟩
        rw [if_neg (by simp [tf]), t_Mone hk (by omega), b1_s, t_Mone hk (by omega), b1_s, rz_mvd hL hk (by omega) hj h0]
        rw [tR_goalOf hM hW hL' (by omega) hg, b1_s, show gv M g (mvd c k h j) = iz (gE M g 0 (mvd c k h j)) by rw [gE_0 hM hE hL' (hh'.trans hh), iz_gv]]
        rw [nI_1]
        by_cases q : gE M g 0 (mvd c k h j) ≤ a
        · rw [if_pos q, if_pos ((iz_le hs2 hs1).mpr q)]
        · rw [if_neg q, if_neg (fun w => q ((iz_le hs2 hs1).mp w))]) (fun n a ha => by
    show f_Mo_twice_L52 N (rz c) (nI g) (nI h) (nI k) m K (n + 1) (iz a) (nI 3) = _
    rw [f_Mo_twice_L52, if_pos n3le]
    rfl) 3 N x 0 (by omega) (by omega) hx
  exact ⟨y, PR_row hy, e⟩
theorem tR_twice2 (hM : qOk M) (hE : qE M) (hW : RW m M) (hL : Lg M c) (hh : hl c = 0) (hN : 100 ≤ N) (hg : g < 3)  {h : Nat} (h3 : h < 3) (K : Int32 → Int32 → Option Int32) {x : Int} (hx : isG (PR M g 0 c h 0 0) x) : ∃ y, isG (PR M g 0 c (h + 1) 0 0) y ∧ f_Mo_twice_L20 N (rz c) (nI g) (nI h) m K N (iz x) 0 = K (iz y) 3 := by
  obtain ⟨y, hy, e⟩ := loopE (fun n (a : Int) j => f_Mo_twice_L20 N (rz c) (nI g) (nI h) m K n (iz a) (nI j)) (fun a j => isG (PR M g 0 c h j 0) a) 3 (fun a => K (iz a) 3) (fun n a j hj ha => by
    show ∃ a', _ ∧ f_Mo_twice_L20 N (rz c) (nI g) (nI h) m K (n + 1) (iz a) (nI j) = _
    have h8 := am_lt c j h
    rw [f_Mo_twice_L20, if_neg (n3nle hj), t_MhasCome (by omega), b1_s]
    cases e2 : cb c h
    · exact ⟨a, PR_rowskip hL h3 hj (Or.inl e2) ha, by rw [if_pos (by simp [tf]), nI_1]⟩
    · rw [if_neg (by simp [tf]), t_Mthings hj (by omega), b1_s]
      by_cases h0 : am c j h = 0
      · exact ⟨a, PR_rowskip hL h3 hj (Or.inr h0) ha, by rw [if_pos (by rw [h0]; rfl), nI_1]⟩
      · obtain ⟨y, h1, h2⟩ := tR_twice3 hM hE hW hL hh hN hg  h3 hj e2 (by omega) (fun z1 z2 => f_Mo_twice_L20 N (rz c) (nI g) (nI h) m K n z1 ((nI j + 1))) ha
        refine ⟨y, h1, ?_⟩
        rw [if_neg (nI_ne0 (by omega) (by omega)), h2, nI_1]) (fun n a ha => by
    show f_Mo_twice_L20 N (rz c) (nI g) (nI h) m K (n + 1) (iz a) (nI 3) = _
    rw [f_Mo_twice_L20, if_pos n3le]
    rfl) 3 N x 0 (by omega) (by omega) hx
  exact ⟨y, PR_row2 hy, e⟩
theorem tR_twice1 (hM : qOk M) (hE : qE M) (hW : RW m M) (hL : Lg M c) (hh : hl c = 0) (hN : 100 ≤ N) (hg : g < 3)  : f_Mo_twice_L11 N (rz c) (nI g) m (fun z1 _ => some z1) N (gv M g c) 0 = some (iz (gE M g (0 + 1) c)) := by
  obtain ⟨y, hy, e⟩ := loopE (fun n (a : Int) j => f_Mo_twice_L11 N (rz c) (nI g) m (fun z1 _ => some z1) n (iz a) (nI j)) (fun a j => isG (PR M g 0 c j 0 0) a) 3 (fun a => some (iz a)) (fun n a j hj ha => by
    show ∃ a', _ ∧ f_Mo_twice_L11 N (rz c) (nI g) m _ (n + 1) (iz a) (nI j) = _
    rw [f_Mo_twice_L11, if_neg (n3nle hj)]
    obtain ⟨y, h1, h2⟩ := tR_twice2 hM hE hW hL hh hN hg  hj (fun z1 z2 => f_Mo_twice_L11 N (rz c) (nI g) m (fun z1 _ => some z1) n z1 ((nI j + 1))) ha
    refine ⟨y, h1, ?_⟩
    rw [h2, nI_1]) (fun n a ha => by
    show f_Mo_twice_L11 N (rz c) (nI g) m _ (n + 1) (iz a) (nI 3) = _
    rw [f_Mo_twice_L11, if_pos n3le]) 3 N (gz M g c) 0 (by omega) (by omega) (PR_start M g 0 c)
  rw [PR_end hM hE hL hh hy, ← iz_gv] at e
  exact e
theorem tR_twice (hM : qOk M) (hE : qE M) (hW : RW m M) (hL : Lg M c) (hh : hl c = 0) (hN : 100 ≤ N) (hg : g < 3) : f_Mo_twice N (rz c) (nI g) m = some (iz (gE M g 1 c)) := by
  unfold f_Mo_twice
  rw [tR_goalOf hM hW hL (by omega) hg, b1_s]
  exact tR_twice1 hM hE hW hL hh hN hg
theorem tR_backed3 (hM : qOk M) (hE : qE M) (hW : RW m M) (hL : Lg M c) (hh : hl c = 0) (hN : 100 ≤ N) (hg : g < 3) {b : Nat} (hb2 : b < 2) {h k : Nat} (h3 : h < 3) (hk : k < 3) (hb : cb c h = true) (h0 : 0 < am c k h) (K : Int32 → Int32 → Option Int32) {x : Int} (hx : isG (PR M g b c h k 0) x) : ∃ y, isG (PR M g b c h (k + 1) 0) y ∧ f_Mo_backed_L60 N (rz c) (nI g) (nI (b + 1)) (nI h) (nI k) m K N (iz x) 0 = K (iz y) 3 := by
  have hH := hM.1
  obtain ⟨y, hy, e⟩ := loopE (fun n (a : Int) j => f_Mo_backed_L60 N (rz c) (nI g) (nI (b + 1)) (nI h) (nI k) m K n (iz a) (nI j)) (fun a j => isG (PR M g b c h k j) a) 3 (fun a => K (iz a) 3) (fun n a j hj ha => by
    show ∃ a', _ ∧ f_Mo_backed_L60 N (rz c) (nI g) (nI (b + 1)) (nI h) (nI k) m K (n + 1) (iz a) (nI j) = _
    rw [f_Mo_backed_L60, if_neg (n3nle hj)]
    by_cases e1 : j = h
    · exact ⟨a, PR_skip1 e1 ha, by rw [if_pos (by rw [e1]), nI_1]⟩
    · rw [if_neg (fun w => e1 ((nI_eq (by omega) (by omega)).mp w)), t_MhasCome (by omega), b1_s]
      cases e2 : cb c j
      · exact ⟨a, PR_skip2 e2 ha, by rw [if_pos (by simp [tf]), nI_1]⟩
      · have hL' := Lg_mvd hL hk (f := h) (by omega) hj h0 e2
        have hh' := hl_mvd (t := j) hL.2.2.2.2 hk h3 hj h0
        have hs1 := sm3_s (PR_sm hM hL ha.1)
        have hs2 := sm3_s (gE_b hM hE (g := g) (b := b) hL')
        refine ⟨_, PR_add hM hE hL h3 hk hj e1 h0 e2 ha, ?_⟩
        rw [if_neg (by simp [tf]), t_Mone hk (by omega), b1_s, t_Mone hk (by omega), b1_s, rz_mvd hL hk (by omega) hj h0]
        simp only [jn]
        rw [show ∀ (J : Int32 → Option Int32), (if nI (b + 1) = 1 then b1 (f_Mo_goalOf N (rz (mvd c k h j)) (nI g) m) fun r19 => J r19 else b1 (f_Mo_twice N (rz (mvd c k h j)) (nI g) m) fun r18 => J r18) = J (iz (gE M g b (mvd c k h j))) from fun J => by
          by_cases b0 : b = 0
          · subst b0
            rw [if_pos (show nI (0 + 1) = 1 from rfl), tR_goalOf hM hW hL' (by omega) hg, b1_s, gE_0 hM hE hL' (hh'.trans hh), iz_gv]
          · have : b = 1 := by omega
            subst this
            rw [if_neg (show ¬ nI (1 + 1) = 1 by decide), tR_twice hM hE hW hL' (hh'.trans hh) hN hg, b1_s]]
        rw [nI_1]
        by_cases q : gE M g b (mvd c k h j) ≤ a
        · rw [if_pos q, if_pos ((iz_le hs2 hs1).mpr q)]
        · rw [if_neg q, if_neg (fun w => q ((iz_le hs2 hs1).mp w))]) (fun n a ha => by
    show f_Mo_backed_L60 N (rz c) (nI g) (nI (b + 1)) (nI h) (nI k) m K (n + 1) (iz a) (nI 3) = _
    rw [f_Mo_backed_L60, if_pos n3le]
    rfl) 3 N x 0 (by omega) (by omega) hx
  exact ⟨y, PR_row hy, e⟩
theorem tR_backed2 (hM : qOk M) (hE : qE M) (hW : RW m M) (hL : Lg M c) (hh : hl c = 0) (hN : 100 ≤ N) (hg : g < 3) {b : Nat} (hb2 : b < 2) {h : Nat} (h3 : h < 3) (K : Int32 → Int32 → Option Int32) {x : Int} (hx : isG (PR M g b c h 0 0) x) : ∃ y, isG (PR M g b c (h + 1) 0 0) y ∧ f_Mo_backed_L28 N (rz c) (nI g) (nI (b + 1)) (nI h) m K N (iz x) 0 = K (iz y) 3 := by
  obtain ⟨y, hy, e⟩ := loopE (fun n (a : Int) j => f_Mo_backed_L28 N (rz c) (nI g) (nI (b + 1)) (nI h) m K n (iz a) (nI j)) (fun a j => isG (PR M g b c h j 0) a) 3 (fun a => K (iz a) 3) (fun n a j hj ha => by
    show ∃ a', _ ∧ f_Mo_backed_L28 N (rz c) (nI g) (nI (b + 1)) (nI h) m K (n + 1) (iz a) (nI j) = _
    have h8 := am_lt c j h
    rw [f_Mo_backed_L28, if_neg (n3nle hj), t_MhasCome (by omega), b1_s]
    cases e2 : cb c h
    · exact ⟨a, PR_rowskip hL h3 hj (Or.inl e2) ha, by rw [if_pos (by simp [tf]), nI_1]⟩
    · rw [if_neg (by simp [tf]), t_Mthings hj (by omega), b1_s]
      by_cases h0 : am c j h = 0
      · exact ⟨a, PR_rowskip hL h3 hj (Or.inr h0) ha, by rw [if_pos (by rw [h0]; rfl), nI_1]⟩
      · obtain ⟨y, h1, h2⟩ := tR_backed3 hM hE hW hL hh hN hg hb2 h3 hj e2 (by omega) (fun z1 z2 => f_Mo_backed_L28 N (rz c) (nI g) (nI (b + 1)) (nI h) m K n z1 ((nI j + 1))) ha
        refine ⟨y, h1, ?_⟩
        rw [if_neg (nI_ne0 (by omega) (by omega)), h2, nI_1]) (fun n a ha => by
    show f_Mo_backed_L28 N (rz c) (nI g) (nI (b + 1)) (nI h) m K (n + 1) (iz a) (nI 3) = _
    rw [f_Mo_backed_L28, if_pos n3le]
    rfl) 3 N x 0 (by omega) (by omega) hx
  exact ⟨y, PR_row2 hy, e⟩
theorem tR_backed1 (hM : qOk M) (hE : qE M) (hW : RW m M) (hL : Lg M c) (hh : hl c = 0) (hN : 100 ≤ N) (hg : g < 3) {b : Nat} (hb2 : b < 2) : f_Mo_backed_L19 N (rz c) (nI g) (nI (b + 1)) m (fun z1 _ => some z1) N (gv M g c) 0 = some (iz (gE M g (b + 1) c)) := by
  obtain ⟨y, hy, e⟩ := loopE (fun n (a : Int) j => f_Mo_backed_L19 N (rz c) (nI g) (nI (b + 1)) m (fun z1 _ => some z1) n (iz a) (nI j)) (fun a j => isG (PR M g b c j 0 0) a) 3 (fun a => some (iz a)) (fun n a j hj ha => by
    show ∃ a', _ ∧ f_Mo_backed_L19 N (rz c) (nI g) (nI (b + 1)) m _ (n + 1) (iz a) (nI j) = _
    rw [f_Mo_backed_L19, if_neg (n3nle hj)]
    obtain ⟨y, h1, h2⟩ := tR_backed2 hM hE hW hL hh hN hg hb2 hj (fun z1 z2 => f_Mo_backed_L19 N (rz c) (nI g) (nI (b + 1)) m (fun z1 _ => some z1) n z1 ((nI j + 1))) ha
    refine ⟨y, h1, ?_⟩
    rw [h2, nI_1]) (fun n a ha => by
    show f_Mo_backed_L19 N (rz c) (nI g) (nI (b + 1)) m _ (n + 1) (iz a) (nI 3) = _
    rw [f_Mo_backed_L19, if_pos n3le]) 3 N (gz M g c) 0 (by omega) (by omega) (PR_start M g b c)
  rw [PR_end hM hE hL hh hy, ← iz_gv] at e
  exact e
theorem tR_backed (hM : qOk M) (hE : qE M) (hW : RW m M) (hL : Lg M c) (hh : hl c = 0) (hN : 100 ≤ N) (hg : g < 3) {b : Nat} (hb : b < 3) : f_Mo_backed N (rz c) (nI g) (nI b) m = some (iz (gE M g b c)) := by
  unfold f_Mo_backed
  rw [tR_goalOf hM hW hL (by omega) hg, b1_s]
  by_cases b0 : b = 0
  · subst b0
    rw [if_pos (show nI 0 = 0 from rfl), gE_0 hM hE hL hh, iz_gv]
  · obtain ⟨k, rfl⟩ : ∃ k, b = k + 1 := ⟨b - 1, by omega⟩
    rw [if_neg (nI_ne0 (by omega) (by omega))]
    exact tR_backed1 hM hE hW hL hh hN hg (show k < 2 by omega)
end TWICE
