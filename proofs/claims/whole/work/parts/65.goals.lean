/-! GOALS, as numbers; class and reference. -/
def th (c h : Nat) : Nat := am c 0 h + am c 1 h + am c 2 h
/-- how many things there are -/
def tt (c : Nat) : Nat := th c 0 + th c 1 + th c 2 + th c 3
/-- a state of the matter -/
def Lg (M : Mt) (c : Nat) : Prop := c < 8 ^ 13 ∧ (∀ h, h < 3 → cb c h = true → h < qH M) ∧ (∀ h, h < qH M → lt1 (qL M) h = false → cb c h = true) ∧ (∀ s h, s < 3 → h < 3 → 0 < am c s h → cb c h = true) ∧ tt c ≤ 6
/-- somebody is told by heir -/
def qE (M : Mt) : Prop := ∃ h, h < qH M ∧ lt1 (qL M) h = false
theorem am_add {c s h : Nat} (h7 : am c s h < 7) {s' h' : Nat} (hh : h < 4) (hh' : h' < 4) : am (c + 8 ^ (4 * s + h)) s' h' = am c s' h' + (if s' = s ∧ h' = h then 1 else 0) := by
  unfold am at *
  rw [dg_add h7]
  by_cases e : s' = s ∧ h' = h
  · obtain ⟨rfl, rfl⟩ := e
    rw [if_pos rfl, if_pos ⟨rfl, rfl⟩]
  · rw [if_neg (by omega), if_neg e]
theorem am_sub {c s h : Nat} (h0 : 0 < am c s h) {s' h' : Nat} (hh : h < 4) (hh' : h' < 4) : am (c - 8 ^ (4 * s + h)) s' h' = am c s' h' - (if s' = s ∧ h' = h then 1 else 0) := by
  unfold am at *
  rw [dg_sub h0]
  by_cases e : s' = s ∧ h' = h
  · obtain ⟨rfl, rfl⟩ := e
    rw [if_pos rfl, if_pos ⟨rfl, rfl⟩]
  · rw [if_neg (by omega), if_neg e]
theorem cb_add {c s h : Nat} (hs : s < 3) (hh : h < 4) (h7 : am c s h < 7) (k : Nat) : cb (c + 8 ^ (4 * s + h)) k = cb c k := by
  unfold cb
  rw [dg_add h7, if_neg (by omega), Nat.add_zero]
theorem cb_sub {c s h : Nat} (hs : s < 3) (hh : h < 4) (h0 : 0 < am c s h) (k : Nat) : cb (c - 8 ^ (4 * s + h)) k = cb c k := by
  unfold cb
  rw [dg_sub h0, if_neg (by omega), Nat.sub_zero]
theorem th_add {c s h : Nat} (hs : s < 3) (hh : h < 4) (h7 : am c s h < 7) {k : Nat} (hk : k < 4) : th (c + 8 ^ (4 * s + h)) k = th c k + (if k = h then 1 else 0) := by
  unfold th
  rw [am_add h7 hh hk, am_add h7 hh hk, am_add h7 hh hk]
  rcases (by omega : s = 0 ∨ s = 1 ∨ s = 2) with rfl | rfl | rfl <;> by_cases e : k = h <;> simp [e] <;> omega
theorem th_sub {c s h : Nat} (hs : s < 3) (hh : h < 4) (h0 : 0 < am c s h) {k : Nat} (hk : k < 4) : th (c - 8 ^ (4 * s + h)) k = th c k - (if k = h then 1 else 0) := by
  unfold th
  rw [am_sub h0 hh hk, am_sub h0 hh hk, am_sub h0 hh hk]
  rcases (by omega : s = 0 ∨ s = 1 ∨ s = 2) with rfl | rfl | rfl <;> by_cases e : k = h
  all_goals first
    | (subst e; simp; omega)
    | simp [e]
theorem tt_add {c s h : Nat} (hs : s < 3) (hh : h < 4) (h7 : am c s h < 7) : tt (c + 8 ^ (4 * s + h)) = tt c + 1 := by
  unfold tt
  rw [th_add hs hh h7 (by omega), th_add hs hh h7 (by omega), th_add hs hh h7 (by omega), th_add hs hh h7 (by omega)]
  rcases (by omega : h = 0 ∨ h = 1 ∨ h = 2 ∨ h = 3) with rfl | rfl | rfl | rfl <;> simp <;> omega
theorem am_th {c s h : Nat} (hs : s < 3) : am c s h ≤ th c h := by
  unfold th
  rcases (by omega : s = 0 ∨ s = 1 ∨ s = 2) with rfl | rfl | rfl <;> omega
theorem th_tt {c h : Nat} (hh : h < 4) : th c h ≤ tt c := by
  unfold tt
  rcases (by omega : h = 0 ∨ h = 1 ∨ h = 2 ∨ h = 3) with rfl | rfl | rfl | rfl <;> omega
theorem tt_sub {c s h : Nat} (hs : s < 3) (hh : h < 4) (h0 : 0 < am c s h) : tt (c - 8 ^ (4 * s + h)) + 1 = tt c := by
  have h1 := am_th (c := c) (h := h) hs
  unfold tt
  rw [th_sub hs hh h0 (by omega), th_sub hs hh h0 (by omega), th_sub hs hh h0 (by omega), th_sub hs hh h0 (by omega)]
  rcases (by omega : h = 0 ∨ h = 1 ∨ h = 2 ∨ h = 3) with rfl | rfl | rfl | rfl <;> simp <;> omega
theorem wv_le {M : Mt} (hM : qOk M) {c h k : Nat} (hh : h < qH M) : wv M c h k ≤ 420 := by
  have a0 := am_lt c 0 k
  have a1 := am_lt c 1 k
  have a2 := am_lt c 2 k
  have w := hM.2.2.2.2.2.1
  have h0 : qW M h 0 * am c 0 k ≤ 20 * 7 := Nat.mul_le_mul (w h 0 hh (by omega)) (by omega)
  have h1 : qW M h 1 * am c 1 k ≤ 20 * 7 := Nat.mul_le_mul (w h 1 hh (by omega)) (by omega)
  have h2 : qW M h 2 * am c 2 k ≤ 20 * 7 := Nat.mul_le_mul (w h 2 hh (by omega)) (by omega)
  unfold wv
  omega
theorem wv_0 {M : Mt} {c : Nat} (hL : Lg M c) {h k : Nat} (hk : k < 3) (hq : qH M ≤ k) : wv M c h k = 0 := by
  have z : ∀ s, s < 3 → am c s k = 0 := by
    intro s hs
    rcases Nat.eq_zero_or_pos (am c s k) with e | e
    · exact e
    · have := hL.2.1 k hk (hL.2.2.2.1 s k hs hk e)
      omega
  unfold wv
  rw [z 0 (by omega), z 1 (by omega), z 2 (by omega)]
  simp
theorem mny_le (c : Nat) : mny c ≤ 3 := by
  unfold mny
  simp only [fo, Nat.zero_add, Nat.reduceAdd]
  split <;> split <;> split <;> omega
def wall (M : Mt) (c h : Nat) : Nat := fo (fun a k => a + wv M c h k) 0 0 3
def shr (M : Mt) (c h : Nat) : Nat := if wall M c h = 0 then 1000 else wv M c h h * mny c * 1000 / wall M c h
def gsh (M : Mt) (c : Nat) : Nat := fo (fun a h => if cb c h then (if a ≤ shr M c h then a else shr M c h) else a) 3000 0 3
theorem shr_le {M : Mt} {c h : Nat} (hh : h < 3) : shr M c h ≤ 3000 := by
  unfold shr
  split
  · omega
  · next h0 =>
    have h1 : wv M c h h ≤ wall M c h := by
      unfold wall
      simp only [fo, Nat.zero_add, Nat.reduceAdd]
      rcases (by omega : h = 0 ∨ h = 1 ∨ h = 2) with rfl | rfl | rfl <;> omega
    have h2 := mny_le c
    refine Nat.div_le_of_le_mul ?_
    calc wv M c h h * mny c * 1000 ≤ wall M c h * 3 * 1000 := Nat.mul_le_mul_right _ (Nat.mul_le_mul h1 h2)
      _ = wall M c h * 3000 := by rw [Nat.mul_assoc]
theorem wall_le {M : Mt} (hM : qOk M) {c h : Nat} (hh : h < qH M) : wall M c h ≤ 1260 := by
  have h0 := wv_le hM (c := c) (k := 0) hh
  have h1 := wv_le hM (c := c) (k := 1) hh
  have h2 := wv_le hM (c := c) (k := 2) hh
  unfold wall
  simp only [fo, Nat.zero_add, Nat.reduceAdd]
  omega
theorem shr_div {M : Mt} (hM : qOk M) {c h : Nat} (hh : h < qH M) (h0 : wall M c h ≠ 0) : nI (wv M c h h) * nI (mny c) * 1000 / nI (wall M c h) = nI (shr M c h) := by
  have h1 := wall_le hM (c := c) hh
  have h2 := wv_le hM (c := c) (k := h) hh
  have h3 := mny_le c
  have h4 : wv M c h h * mny c ≤ 420 * 3 := Nat.mul_le_mul h2 h3
  rw [show (1000 : Int32) = nI 1000 from rfl, pk_mul, pk_mul, pk_div (by omega) (by omega) (by omega)]
  unfold shr
  rw [if_neg h0]
section GOALS
variable {N : Nat} {S : St} {x : Nat} {m : Mm} {M : Mt} {c d : Nat}
theorem n3le : (3 : Int32) ≤ nI 3 := nI_le (a := 3) (by omega) (by omega)
theorem n3nle {j : Nat} (h : j < 3) : ¬ (3 : Int32) ≤ nI j := nI_ge (b := 3) h (by omega)
theorem tR_share38 (hM : qOk M) (hW : RW m M) (hN : 4 ≤ N) {h : Nat} (hh : h < qH M) (x3 x4 : Int32) (K : Int32 → Int32 → Option Int32) : f_Mo_share_L38 N (rz c) x3 x4 (nI h) m K N 0 0 = K (nI (wall M c h)) 3 := by
  refine loopF (fun n (a : Nat) j => f_Mo_share_L38 N (rz c) x3 x4 (nI h) m K n (nI a) (nI j)) (fun a k => a + wv M c h k) 3 (fun a => K (nI a) 3) (fun n a j hj => ?_) (fun n a => ?_) 3 N 0 0 (by omega) (by omega)
  · show f_Mo_share_L38 N (rz c) x3 x4 (nI h) m K (n + 1) (nI a) (nI j) = _
    rw [f_Mo_share_L38, if_neg (n3nle hj), tR_worthTo hM hW hN hh (by omega), b1_s, nI_add, nI_1]
  · show f_Mo_share_L38 N (rz c) x3 x4 (nI h) m K (n + 1) (nI a) (nI 3) = _
    rw [f_Mo_share_L38, if_pos n3le]
    rfl
theorem tR_share (hM : qOk M) (hW : RW m M) (hL : Lg M c) (hN : 4 ≤ N) : f_Mo_share N (rz c) m = some (nI (gsh M c)) := by
  unfold f_Mo_share
  rw [tR_manyCame hN, b1_s]
  refine loopI (fun n (a : Nat) j => f_Mo_share_L14 N (rz c) (nI (mny c)) m (fun (z16_3 : Int32) (z16_5 : Int32) => some z16_3) n (nI a) (nI j)) (fun a _ => a ≤ 3000) (fun a h => if cb c h then (if a ≤ shr M c h then a else shr M c h) else a) 3 (fun a => some (nI a)) (fun n a j hj ha => ?_) (fun a j hj ha => ?_) (fun n a _ => ?_) 3 N 3000 0 (by omega) (by omega) (by omega)
  · show f_Mo_share_L14 N (rz c) (nI (mny c)) m _ (n + 1) (nI a) (nI j) = _
    rw [f_Mo_share_L14, if_neg (n3nle hj), t_MhasCome (by omega), b1_s]
    cases e : cb c j
    · rw [if_pos (by simp [tf]), nI_1]
      simp
    · have hq := hL.2.1 j hj e
      have hs := shr_le (M := M) (c := c) hj
      rw [if_neg (by simp [tf]), tR_share38 hM hW hN hq]
      simp only [jn]
      have hw := wall_le hM (c := c) hq
      by_cases h0 : wall M c j = 0
      · rw [if_pos (show nI (wall M c j) = 0 by rw [h0]; rfl)]
        have e1 : shr M c j = 1000 := by unfold shr; rw [if_pos h0]
        rw [nI_1]
        by_cases h1 : a ≤ 1000
        · rw [if_pos (show nI a ≤ 1000 from nI_le (b := 1000) h1 (by omega))]
          simp [e1, h1]
        · rw [if_neg (show ¬ nI a ≤ 1000 from nI_ge (a := 1000) (by omega) (by omega))]
          simp [e1, h1]
          rfl
      · rw [if_neg (show ¬ nI (wall M c j) = 0 from nI_ne0 (by omega) (by omega)), tR_worthTo hM hW hN hq (by omega), b1_s, ck_t (show ¬ nI (wall M c j) = 0 from nI_ne0 (by omega) (by omega)), shr_div hM hq h0, nI_1]
        by_cases h1 : a ≤ shr M c j
        · rw [if_pos (nI_le h1 (by omega))]
          simp [h1]
        · rw [if_neg (nI_ge (by omega) (by omega))]
          simp [h1]
  · have hs := shr_le (M := M) (c := c) hj
    show (if cb c j then _ else a) ≤ 3000
    split
    · split <;> omega
    · exact ha
  · show f_Mo_share_L14 N (rz c) (nI (mny c)) m _ (n + 1) (nI a) (nI 3) = _
    rw [f_Mo_share_L14, if_pos n3le]
theorem tC_share38 (hM : qOk M) (hW : CW m x M) (hL : Lg M c) (hd : d < 8) (hN : 4 ≤ N) {h : Nat} (hh : h < qH M) (x3 x4 : Int32) (K : Int32 → Int32 → Option Int32) : f_Goals_leastShare_L38 N S x (cs c d) x3 x4 (nI h) m K N 0 0 = K (nI (wall M c h)) (nI (qH M)) := by
  have hH := hM.1
  have := loopF (fun n (a : Nat) j => f_Goals_leastShare_L38 N S x (cs c d) x3 x4 (nI h) m K n (nI a) (nI j)) (fun a k => a + wv M c h k) (qH M) (fun a => K (nI a) (nI (qH M))) (fun n a j hj => ?_) (fun n a => ?_) (qH M) N 0 0 (by omega) (by omega)
  · refine this.trans ?_
    unfold wall
    have e := fo_more (f := fun a k => a + wv M c h k) (qH M) (3 - qH M) 0 0 (fun a i h1 h2 => by rw [wv_0 hL (by omega) (by omega)]; rfl)
    rw [show qH M + (3 - qH M) = 3 by omega] at e
    rw [e]
  · show f_Goals_leastShare_L38 N S x (cs c d) x3 x4 (nI h) m K (n + 1) (nI a) (nI j) = _
    rw [f_Goals_leastShare_L38, hW.1, if_neg (nI_ge hj (by omega)), tW_value hM hW hN hL.1 hd hh (by omega), b1_s, nI_add, nI_1]
  · show f_Goals_leastShare_L38 N S x (cs c d) x3 x4 (nI h) m K (n + 1) (nI a) (nI (qH M)) = _
    rw [f_Goals_leastShare_L38, hW.1, if_pos (nI_le (Nat.le_refl _) (by omega))]
def zOpt (o : Option Nat) : Int32 := match o with
  | none => -1
  | some v => nI v
def fsh (M : Mt) (c : Nat) (a : Option Nat) (h : Nat) : Option Nat := if cb c h then (match a with
  | none => some (shr M c h)
  | some v => some (if shr M c h < v then shr M c h else v)) else a
theorem nI_m1 {v : Nat} (h : v < 2 ^ 31) : ¬ nI v = -1 := by
  intro e
  have h2 := nI_pos h
  rw [e] at h2
  exact h2 (by decide)
theorem tC_share (hM : qOk M) (hE : qE M) (hW : CW m x M) (hL : Lg M c) (hd : d < 8) (hN : 4 ≤ N) : f_Goals_leastShare N S x (cs c d) m = some (nI (gsh M c)) := by
  have hH := hM.1
  unfold f_Goals_leastShare
  rw [t_cameOf hL.1 hd, b1_s, t_bitCount, b1_s]
  have := loopI (fun n (a : Option Nat) j => f_Goals_leastShare_L14 N S x (cs c d) (nI (mny c)) m (fun (z17_4 : Int32) (z17_5 : Int32) => some z17_4) n (zOpt a) (nI j)) (fun a _ => ∀ v, a = some v → v ≤ 3000) (fsh M c) (qH M) (fun a => some (zOpt a)) (fun n a j hj ha => ?_) (fun a j hj ha => ?_) (fun n a _ => ?_) (qH M) N none 0 (by omega) (by omega) (fun v h => by cases h)
  · refine this.trans ?_
    have r := fo_rel (fun (a : Option Nat) (b : Nat) j => (a = none ∧ b = 3000 ∧ ∀ i, i < j → cb c i = false) ∨ a = some b) (f := fsh M c) (g := fun a h => if cb c h then (if a ≤ shr M c h then a else shr M c h) else a) (qH M) none 3000 0 (Or.inl ⟨rfl, rfl, fun i hi => by omega⟩) (fun a b i h1 h2 hr => ?_)
    · have e := fo_more (f := fun a h => if cb c h then (if a ≤ shr M c h then a else shr M c h) else a) (qH M) (3 - qH M) 3000 0 (fun a i h1 h2 => by
        cases q : cb c i
        · simp
        · have := hL.2.1 i (by omega) q
          omega)
      rw [show qH M + (3 - qH M) = 3 by omega] at e
      rcases r with ⟨_, _, r3⟩ | r
      · exfalso
        obtain ⟨h, h1, h2⟩ := hE
        have h3 := hL.2.2.1 h h1 h2
        rw [r3 h (by omega)] at h3
        cases h3
      · rw [r]
        show some (nI _) = some (nI (gsh M c))
        unfold gsh
        rw [e]
    · have hs := shr_le (M := M) (c := c) (h := i) (by omega)
      cases q : cb c i
      · rcases hr with ⟨r1, r2, r3⟩ | hr
        · refine Or.inl ⟨by simp [fsh, q, r1], by simp [r2], fun k hk => ?_⟩
          by_cases e : k = i
          · rw [e]; exact q
          · exact r3 k (by omega)
        · exact Or.inr (by simp [fsh, q, hr])
      · rcases hr with ⟨r1, r2, r3⟩ | hr
        · refine Or.inr ?_
          subst r1 r2
          simp only [fsh, q, if_true]
          by_cases e : 3000 ≤ shr M c i
          · rw [if_pos e]; congr 1; omega
          · rw [if_neg e]
        · refine Or.inr ?_
          subst hr
          simp only [fsh, q, if_true]
          by_cases e : b ≤ shr M c i
          · rw [if_pos e, if_neg (by omega)]
          · rw [if_neg e, if_pos (by omega)]
  · show f_Goals_leastShare_L14 N S x (cs c d) (nI (mny c)) m _ (n + 1) (zOpt a) (nI j) = _
    rw [f_Goals_leastShare_L14, hW.1, if_neg (nI_ge hj (by omega)), t_isThere hL.1 hd (by omega), b1_s]
    cases e : cb c j
    · rw [if_pos (by simp [tf]), nI_1]
      simp [fsh, e]
    · have hs := shr_le (M := M) (c := c) (h := j) (by omega)
      have hw := wall_le hM (c := c) hj
      rw [if_neg (by simp [tf]), tC_share38 hM hW hL hd hN hj, tW_value hM hW hN hL.1 hd hj (by omega), b1_s]
      simp only [jn]
      have key : ∀ s, s = nI (shr M c j) → (if zOpt a = -1 then f_Goals_leastShare_L14 N S x (cs c d) (nI (mny c)) m (fun (z17_4 : Int32) (z17_5 : Int32) => some z17_4) n s (nI j + 1) else f_Goals_leastShare_L14 N S x (cs c d) (nI (mny c)) m (fun (z17_4 : Int32) (z17_5 : Int32) => some z17_4) n (if s < zOpt a then s else zOpt a) (nI j + 1)) = f_Goals_leastShare_L14 N S x (cs c d) (nI (mny c)) m (fun (z17_4 : Int32) (z17_5 : Int32) => some z17_4) n (zOpt (fsh M c a j)) (nI (j + 1)) := by
        intro s hse
        subst hse
        rw [nI_1]
        cases a with
        | none => simp [zOpt, fsh, e]
        | some v =>
          have hv := ha v rfl
          rw [if_neg (show ¬ zOpt (some v) = -1 from nI_m1 (v := v) (by omega))]
          by_cases h1 : shr M c j < v
          · rw [if_pos (show nI (shr M c j) < zOpt (some v) from nI_lt h1 (by omega))]
            simp [zOpt, fsh, e, h1]
          · rw [if_neg (show ¬ nI (shr M c j) < zOpt (some v) from nI_nlt (by omega) (by omega))]
            simp [zOpt, fsh, e, h1]
      by_cases h0 : wall M c j = 0
      · rw [if_pos (show nI (wall M c j) = 0 by rw [h0]; rfl)]
        exact key 1000 (by unfold shr; rw [if_pos h0]; rfl)
      · rw [if_neg (show ¬ nI (wall M c j) = 0 from nI_ne0 (by omega) (by omega)), ck_t (show ¬ nI (wall M c j) = 0 from nI_ne0 (by omega) (by omega))]
        exact key _ (shr_div hM hj h0)
  · intro v hv
    have hs := shr_le (M := M) (c := c) (h := j) (by omega)
    unfold fsh at hv
    split at hv
    · cases a with
      | none => cases hv; omega
      | some w =>
        have := ha w rfl
        cases hv
        split <;> omega
    · exact ha v hv
  · show f_Goals_leastShare_L14 N S x (cs c d) (nI (mny c)) m _ (n + 1) (zOpt a) (nI (qH M)) = _
    rw [f_Goals_leastShare_L14, hW.1, if_pos (nI_le (Nat.le_refl _) (by omega))]
def gsu (M : Mt) (c : Nat) : Nat := fo (fun a h => if cb c h then a + wv M c h h else a) 0 0 3
theorem tC_sum (hM : qOk M) (hW : CW m x M) (hL : Lg M c) (hd : d < 8) (hN : 4 ≤ N) : f_Goals_sum N S x (cs c d) m = some (nI (gsu M c)) := by
  have hH := hM.1
  unfold f_Goals_sum
  have := loopF (fun n (a : Nat) j => f_Goals_sum_L5 N S x (cs c d) m (fun (z5_3 : Int32) (z5_4 : Int32) => some z5_3) n (nI a) (nI j)) (fun a h => if cb c h then a + wv M c h h else a) (qH M) (fun a => some (nI a)) (fun n a j hj => ?_) (fun n a => ?_) (qH M) N 0 0 (by omega) (by omega)
  · refine this.trans ?_
    have e := fo_more (f := fun a h => if cb c h then a + wv M c h h else a) (qH M) (3 - qH M) 0 0 (fun a i h1 h2 => by
      cases q : cb c i
      · simp
      · have := hL.2.1 i (by omega) q
        omega)
    rw [show qH M + (3 - qH M) = 3 by omega] at e
    unfold gsu
    rw [e]
  · show f_Goals_sum_L5 N S x (cs c d) m _ (n + 1) (nI a) (nI j) = _
    rw [f_Goals_sum_L5, hW.1, if_neg (nI_ge hj (by omega)), t_isThere hL.1 hd (by omega), b1_s]
    cases e : cb c j
    · rw [if_pos (by simp [tf]), nI_1]
      simp
    · rw [if_neg (by simp [tf]), tW_value hM hW hN hL.1 hd hj (by omega), b1_s, nI_add, nI_1]
      simp
  · show f_Goals_sum_L5 N S x (cs c d) m _ (n + 1) (nI a) (nI (qH M)) = _
    rw [f_Goals_sum_L5, hW.1, if_pos (nI_le (Nat.le_refl _) (by omega))]
end GOALS
