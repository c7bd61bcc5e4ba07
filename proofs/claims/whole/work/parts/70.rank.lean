/-! RANKS, as numbers: prefix sums, numbers of four amounts, places; like places mean like states. -/
def psu (w : Nat → Nat) : Nat → Nat
  | 0 => 0
  | n + 1 => psu w n + w n
theorem psu_mono (w : Nat → Nat) {a b : Nat} (h : a ≤ b) : psu w a ≤ psu w b := by
  induction b with
  | zero => rw [Nat.le_zero.mp h]; exact Nat.le_refl _
  | succ n ih =>
    rcases Nat.lt_or_ge n a with q | q
    · rw [show a = n + 1 by omega]; exact Nat.le_refl _
    · exact Nat.le_trans (ih q) (Nat.le_add_right _ _)
theorem psu_lt {w : Nat → Nat} {a b x : Nat} (hx : x < w a) (h : a < b) : psu w a + x < psu w b := by
  have := psu_mono w (show a + 1 ≤ b from h)
  rw [psu] at this
  omega
theorem psu_inj {w : Nat → Nat} {a a' x x' : Nat} (hx : x < w a) (hx' : x' < w a') (h : psu w a + x = psu w a' + x') : a = a' ∧ x = x' := by
  rcases Nat.lt_trichotomy a a' with q | q | q
  · have := psu_lt hx q
    omega
  · subst q
    exact ⟨rfl, by omega⟩
  · have := psu_lt hx' q
    omega
def tet (s : Nat) : Nat := (s + 1) * (s + 2) * (s + 3) / 6
def tri (s a : Nat) : Nat := (s - a + 1) * (s - a + 2) / 2
def lin (s a b : Nat) : Nat := s - a - b + 1
def nF (a b c h : Nat) : Nat := psu tet (a + b + c + h) + (psu (tri (a + b + c + h)) a + (psu (lin (a + b + c + h) a) b + c))
def upF (s : Nat) : Nat := psu tet (s + 1)
def sO (n : Nat) : Nat := if n < 1 then 0 else if n < 5 then 1 else if n < 15 then 2 else if n < 35 then 3 else if n < 70 then 4 else if n < 126 then 5 else 6
theorem nF_b0 : ∀ s, s < 7 → ∀ a, a < 7 → ∀ b, b < 7 → ((List.range 7).all (fun c => !(decide (a + b + c ≤ s)) || (decide (psu (tri s) a + (psu (lin s a) b + c) < tet s) && decide (psu (lin s a) b + c < tri s a) && decide (c < lin s a b)))) = true := by decide +kernel
theorem nF_b (s : Nat) (hs : s < 7) (a : Nat) (ha : a < 7) (b : Nat) (hb : b < 7) (c : Nat) (hc : c < 7) (h : a + b + c ≤ s) : psu (tri s) a + (psu (lin s a) b + c) < tet s ∧ psu (lin s a) b + c < tri s a ∧ c < lin s a b := by
  have := List.all_eq_true.mp (nF_b0 s hs a ha b hb) c (List.mem_range.mpr hc)
  simp [h] at this
  exact ⟨this.1.1, this.1.2, this.2⟩
theorem nF_inj {a b c h a' b' c' h' : Nat} (hs : a + b + c + h ≤ 6) (hs' : a' + b' + c' + h' ≤ 6) (e : nF a b c h = nF a' b' c' h') : a = a' ∧ b = b' ∧ c = c' ∧ h = h' := by
  obtain ⟨x1, x2, x3⟩ := nF_b (a + b + c + h) (by omega) a (by omega) b (by omega) c (by omega) (by omega)
  obtain ⟨y1, y2, y3⟩ := nF_b (a' + b' + c' + h') (by omega) a' (by omega) b' (by omega) c' (by omega) (by omega)
  unfold nF at e
  obtain ⟨e1, e2⟩ := psu_inj x1 y1 e
  rw [← e1] at e2 y2 y3
  obtain ⟨e3, e4⟩ := psu_inj x2 y2 e2
  subst e3
  obtain ⟨e5, e6⟩ := psu_inj x3 y3 e4
  omega
theorem upF_v : ∀ n, n < 210 → ∀ K, K < 7 → (sO n ≤ K ↔ n < upF K) := by decide +kernel
theorem nF_s : ∀ s, s < 7 → ∀ n, n < tet s → sO (psu tet s + n) = s ∧ psu tet s + n < 210 := by decide +kernel
theorem nF_sO {a b c h : Nat} (hs : a + b + c + h ≤ 6) : sO (nF a b c h) = a + b + c + h ∧ nF a b c h < 210 := by
  obtain ⟨x1, x2, x3⟩ := nF_b (a + b + c + h) (by omega) a (by omega) b (by omega) c (by omega) (by omega)
  exact nF_s _ (by omega) _ x1
def miF (K b : Nat) : Nat := psu (fun i => upF (K - sO i)) b
def paF (K : Nat) : Nat := miF K (upF K)
def fiF (B a : Nat) : Nat := psu (fun i => paF (B - sO i)) a
def szF (B : Nat) : Nat := fiF B (upF B)
def cpl (B a b c : Nat) : Nat := fiF B a + (miF (B - sO a) b + c)
theorem cpl_b {B a b c : Nat} (hB : B ≤ 6) (ha : a < 210) (hb : b < 210) (hc : c < 210) (h : sO a + sO b + sO c ≤ B) : c < upF (B - sO a - sO b) ∧ miF (B - sO a) b + c < paF (B - sO a) ∧ cpl B a b c < szF B := by
  have h1 : c < upF (B - sO a - sO b) := (upF_v c hc _ (by omega)).mp (by omega)
  have h2 : miF (B - sO a) b + c < paF (B - sO a) := psu_lt (w := fun i => upF (B - sO a - sO i)) h1 ((upF_v b hb _ (by omega)).mp (by omega))
  exact ⟨h1, h2, psu_lt (w := fun i => paF (B - sO i)) h2 ((upF_v a ha _ (by omega)).mp (by omega))⟩
theorem cpl_inj {B a b c a' b' c' : Nat} (hB : B ≤ 6) (ha : a < 210) (hb : b < 210) (hc : c < 210) (h : sO a + sO b + sO c ≤ B) (ha' : a' < 210) (hb' : b' < 210) (hc' : c' < 210) (h' : sO a' + sO b' + sO c' ≤ B) (e : cpl B a b c = cpl B a' b' c') : a = a' ∧ b = b' ∧ c = c' := by
  obtain ⟨x1, x2, x3⟩ := cpl_b hB ha hb hc h
  obtain ⟨y1, y2, y3⟩ := cpl_b hB ha' hb' hc' h'
  obtain ⟨e1, e2⟩ := psu_inj (w := fun i => paF (B - sO i)) x2 y2 e
  subst e1
  obtain ⟨e3, e4⟩ := psu_inj (w := fun i => upF (B - sO a - sO i)) x1 y1 e2
  exact ⟨rfl, e3, e4⟩
/-- who of the late ones came, as bits -/
def lmF (H L w : Nat) : Nat := (fo (fun (q : Nat × Nat) h => if lt1 L h then (if w / 2 ^ h % 2 = 1 then q.1 + q.2 else q.1, 2 * q.2) else q) (0, 1) 0 H).1
/-- who came, as a state of the matter may have it -/
def wOk (H L w : Nat) : Bool := decide (w < 2 ^ H) && (List.range H).all (fun h => lt1 L h || decide (w / 2 ^ h % 2 = 1))
def mkF (H L : Nat) : Nat := fo (fun a w => if wOk H L w then (if a < lmF H L w + 1 then lmF H L w + 1 else a) else a) 1 0 8
theorem lmF_inj0 : ∀ H, H < 4 → ∀ L, L < 8 → ∀ w, w < 8 → ((List.range 8).all (fun w' => !(wOk H L w) || !(wOk H L w') || !(lmF H L w == lmF H L w') || w == w')) = true := by decide +kernel
theorem lmF_inj (H : Nat) (hH : H < 4) (L : Nat) (hL : L < 8) (w : Nat) (hw : w < 8) (w' : Nat) (hw' : w' < 8) (h : wOk H L w = true) (h' : wOk H L w' = true) (e : lmF H L w = lmF H L w') : w = w' := by
  have := List.all_eq_true.mp (lmF_inj0 H hH L hL w hw) w' (List.mem_range.mpr hw')
  simp [h, h', e] at this
  exact this
theorem lmF_lt : ∀ H, H < 4 → ∀ L, L < 8 → ∀ w, w < 8 → wOk H L w = true → lmF H L w < mkF H L := by decide +kernel
theorem lmF_8 : ∀ H, H < 4 → ∀ L, L < 8 → ∀ w, w < 8 → lmF H L w < 8 := by decide +kernel
theorem mkF_b : ∀ H, H < 4 → ∀ L, L < 8 → 1 ≤ mkF H L ∧ mkF H L ≤ 8 ∧ ∀ h, h < H → lt1 L h = false → mkF H L ≤ 4 := by decide +kernel
theorem wOk_1 : ∀ H, H < 4 → ∀ w, w < 8 → (∀ h, h < 3 → w / 2 ^ h % 2 = 1 → h < H) → w < 2 ^ H := by decide +kernel
theorem wOk_2 : ∀ H, H < 4 → ∀ w, w < 8 → w < 2 ^ H → ∀ h, h < 3 → w / 2 ^ h % 2 = 1 → h < H := by decide +kernel
/-- a state, or a trace, that has a place -/
def Dm (M : Mt) (c : Nat) : Prop := c < 8 ^ 13 ∧ wOk (qH M) (qL M) (dg c 12) = true ∧ tt c ≤ 6
theorem qL8 {M : Mt} (hM : qOk M) : qL M < 8 := by
  have h1 := hM.2.2.2.2.1
  have h2 : 2 ^ qH M ≤ 2 ^ 3 := Nat.pow_le_pow_right (by decide) hM.1
  omega
theorem Lg.dm {M : Mt} (hM : qOk M) {c : Nat} (h : Lg M c) : Dm M c := by
  refine ⟨h.1, ?_, h.2.2.2.2⟩
  unfold wOk
  rw [Bool.and_eq_true]
  refine ⟨decide_eq_true (wOk_1 _ (by have := hM.1; omega) _ (dg_lt c 12) (fun k hk hb => h.2.1 k hk (by unfold cb; exact decide_eq_true hb))), List.all_eq_true.mpr (fun k hk => ?_)⟩
  have hk2 := List.mem_range.mp hk
  cases q : lt1 (qL M) k
  · have := h.2.2.1 k hk2 q
    unfold cb at this
    rw [Bool.false_or]
    exact this
  · rfl
/-- number of the amounts of a sort -/
def nS (c s : Nat) : Nat := nF (am c s 0) (am c s 1) (am c s 2) (am c s 3)
def rS (c s : Nat) : Nat := am c s 0 + am c s 1 + am c s 2 + am c s 3
theorem rS_tt (c : Nat) : rS c 0 + rS c 1 + rS c 2 = tt c := by unfold rS tt th; omega
theorem nS_v {c s : Nat} (hs : s < 3) (h : tt c ≤ 6) : sO (nS c s) = rS c s ∧ nS c s < 210 := by
  have := rS_tt c
  refine nF_sO ?_
  unfold rS at this
  rcases (by omega : s = 0 ∨ s = 1 ∨ s = 2) with rfl | rfl | rfl <;> omega
theorem nS_inj {c c' s : Nat} (hs : s < 3) (h : tt c ≤ 6) (h' : tt c' ≤ 6) (e : nS c s = nS c' s) {k : Nat} (hk : k < 4) : am c s k = am c' s k := by
  have a1 := rS_tt c
  have a2 := rS_tt c'
  unfold rS at a1 a2
  have := nF_inj (a := am c s 0) (b := am c s 1) (c := am c s 2) (h := am c s 3) (a' := am c' s 0) (b' := am c' s 1) (c' := am c' s 2) (h' := am c' s 3) (by rcases (by omega : s = 0 ∨ s = 1 ∨ s = 2) with rfl | rfl | rfl <;> omega) (by rcases (by omega : s = 0 ∨ s = 1 ∨ s = 2) with rfl | rfl | rfl <;> omega) e
  rcases (by omega : k = 0 ∨ k = 1 ∨ k = 2 ∨ k = 3) with rfl | rfl | rfl | rfl
  · exact this.1
  · exact this.2.1
  · exact this.2.2.1
  · exact this.2.2.2
/-- things that may have come till a day; where its places begin -/
def mbr (M : Mt) (d : Nat) : Bool := (List.range (qA M d)).any (fun a => decide (qK M d a = 0))
def lim (M : Mt) : Nat → Nat
  | 0 => 0
  | d + 1 => if d < qD M ∧ mbr M d = true ∧ lim M d < 6 then lim M d + 1 else lim M d
def sta (M : Mt) (d : Nat) : Nat := psu (fun i => szF (lim M i)) d
theorem lim_le (M : Mt) : ∀ d, lim M d ≤ 6
  | 0 => by simp [lim]
  | d + 1 => by
    have := lim_le M d
    rw [lim]
    split <;> omega
def lmk (M : Mt) (c : Nat) : Nat := lmF (qH M) (qL M) (dg c 12)
def mks (M : Mt) : Nat := mkF (qH M) (qL M)
def cpo (B c : Nat) : Option Nat := if tt c ≤ B then some (cpl B (nS c 0) (nS c 1) (nS c 2)) else none
def plE (M : Mt) (c : Nat) : Option Nat := (cpo (lim M (qD M)) c).map (fun p => p * mks M + lmk M c)
def plS (M : Mt) (c d : Nat) : Option Nat := (cpo (lim M d) c).map (fun p => (sta M d + p) * mks M + lmk M c)
theorem cpo_lt {B c p : Nat} (hB : B ≤ 6) (h6 : tt c ≤ 6) (h : cpo B c = some p) : p < szF B := by
  unfold cpo at h
  split at h
  · next q =>
    cases h
    have v0 := nS_v (c := c) (s := 0) (by omega) h6
    have v1 := nS_v (c := c) (s := 1) (by omega) h6
    have v2 := nS_v (c := c) (s := 2) (by omega) h6
    have := rS_tt c
    exact (cpl_b hB v0.2 v1.2 v2.2 (by omega)).2.2
  · cases h
theorem cpo_inj {B c c' p : Nat} (hB : B ≤ 6) (h6 : tt c ≤ 6) (h6' : tt c' ≤ 6) (h : cpo B c = some p) (h' : cpo B c' = some p) {s k : Nat} (hs : s < 3) (hk : k < 4) : am c s k = am c' s k := by
  unfold cpo at h h'
  split at h
  · next q =>
    split at h'
    · next q' =>
      have e : cpl B (nS c 0) (nS c 1) (nS c 2) = cpl B (nS c' 0) (nS c' 1) (nS c' 2) := Option.some.inj (h.trans h'.symm)
      have v0 := nS_v (c := c) (s := 0) (by omega) h6
      have v1 := nS_v (c := c) (s := 1) (by omega) h6
      have v2 := nS_v (c := c) (s := 2) (by omega) h6
      have w0 := nS_v (c := c') (s := 0) (by omega) h6'
      have w1 := nS_v (c := c') (s := 1) (by omega) h6'
      have w2 := nS_v (c := c') (s := 2) (by omega) h6'
      have a1 := rS_tt c
      have a2 := rS_tt c'
      obtain ⟨e0, e1, e2⟩ := cpl_inj hB v0.2 v1.2 v2.2 (by omega) w0.2 w1.2 w2.2 (by omega) e
      rcases (by omega : s = 0 ∨ s = 1 ∨ s = 2) with rfl | rfl | rfl
      · exact nS_inj (by omega) h6 h6' e0 hk
      · exact nS_inj (by omega) h6 h6' e1 hk
      · exact nS_inj (by omega) h6 h6' e2 hk
    · cases h'
  · cases h
theorem mix_inj {a b x y k : Nat} (hx : x < k) (hy : y < k) (h : a * k + x = b * k + y) : a = b ∧ x = y := by
  have h1 : (a * k + x) / k = a := by rw [Nat.mul_comm, Nat.mul_add_div (by omega), Nat.div_eq_of_lt hx]; rfl
  have h2 : (b * k + y) / k = b := by rw [Nat.mul_comm, Nat.mul_add_div (by omega), Nat.div_eq_of_lt hy]; rfl
  have h3 : a = b := by rw [← h1, ← h2, h]
  subst h3
  exact ⟨rfl, by omega⟩
theorem st_ext {c c' : Nat} (hc : c < 8 ^ 13) (hc' : c' < 8 ^ 13) (h : ∀ s k, s < 3 → k < 4 → am c s k = am c' s k) (h12 : dg c 12 = dg c' 12) : c = c' := by
  refine dg_ext 13 hc hc' (fun i hi => ?_)
  by_cases q : i < 12
  · obtain ⟨s, k, hs, hk, rfl⟩ := cell q
    exact h s k hs hk
  · rw [show i = 12 by omega]
    exact h12
theorem plS_inj {M : Mt} (hM : qOk M) {c c' d d' p : Nat} (h : Dm M c) (h' : Dm M c') (e : plS M c d = some p) (e' : plS M c' d' = some p) : c = c' ∧ d = d' := by
  have hH := hM.1
  obtain ⟨x, hx, ex⟩ := Option.map_eq_some_iff.mp e
  obtain ⟨y, hy, ey⟩ := Option.map_eq_some_iff.mp e'
  have l1 := lmF_lt (qH M) (by omega) (qL M) (qL8 hM) _ (dg_lt c 12) h.2.1
  have l2 := lmF_lt (qH M) (by omega) (qL M) (qL8 hM) _ (dg_lt c' 12) h'.2.1
  obtain ⟨e1, e2⟩ := mix_inj (k := mks M) l1 l2 (ex.trans ey.symm)
  obtain ⟨e3, e4⟩ := psu_inj (w := fun i => szF (lim M i)) (cpo_lt (lim_le M d) h.2.2 hx) (cpo_lt (lim_le M d') h'.2.2 hy) e1
  subst e3 e4
  exact ⟨st_ext h.1 h'.1 (fun s k hs hk => cpo_inj (lim_le M d) h.2.2 h'.2.2 hx hy hs hk) (lmF_inj (qH M) (by omega) (qL M) (qL8 hM) _ (dg_lt c 12) _ (dg_lt c' 12) h.2.1 h'.2.1 e2), rfl⟩
theorem plE_inj {M : Mt} (hM : qOk M) {c c' p : Nat} (h : Dm M c) (h' : Dm M c') (e : plE M c = some p) (e' : plE M c' = some p) : c = c' := by
  have hH := hM.1
  obtain ⟨x, hx, ex⟩ := Option.map_eq_some_iff.mp e
  obtain ⟨y, hy, ey⟩ := Option.map_eq_some_iff.mp e'
  have l1 := lmF_lt (qH M) (by omega) (qL M) (qL8 hM) _ (dg_lt c 12) h.2.1
  have l2 := lmF_lt (qH M) (by omega) (qL M) (qL8 hM) _ (dg_lt c' 12) h'.2.1
  obtain ⟨e1, e2⟩ := mix_inj (k := mks M) l1 l2 (ex.trans ey.symm)
  subst e1
  exact st_ext h.1 h'.1 (fun s k hs hk => cpo_inj (lim_le M _) h.2.2 h'.2.2 hx hy hs hk) (lmF_inj (qH M) (by omega) (qL M) (qL8 hM) _ (dg_lt c 12) _ (dg_lt c' 12) h.2.1 h'.2.1 e2)
theorem szF_v : ∀ B, B < 7 → szF B ≤ 18564 := by decide +kernel
theorem plS_b {M : Mt} (hM : qOk M) {c d p : Nat} (hd : d ≤ 6) (h : Dm M c) (e : plS M c d = some p) : p < sta M (d + 1) * mks M ∧ sta M (d + 1) ≤ 18564 * 7 := by
  have hH := hM.1
  obtain ⟨x, hx, ex⟩ := Option.map_eq_some_iff.mp e
  have l1 := lmF_lt (qH M) (by omega) (qL M) (qL8 hM) _ (dg_lt c 12) h.2.1
  have h2 := psu_lt (w := fun i => szF (lim M i)) (cpo_lt (lim_le M d) h.2.2 hx) (show d < d + 1 by omega)
  refine ⟨?_, ?_⟩
  · rw [← ex]
    have h3 : sta M d + x + 1 ≤ sta M (d + 1) := h2
    have h4 : (sta M d + x + 1) * mks M ≤ sta M (d + 1) * mks M := Nat.mul_le_mul_right _ h3
    rw [Nat.succ_mul] at h4
    have h5 : lmk M c < mks M := l1
    omega
  · have : ∀ n, sta M n ≤ 18564 * n := by
      intro n
      induction n with
      | zero => exact Nat.le_refl _
      | succ n ih =>
        have h9 := szF_v (lim M n) (by have := lim_le M n; omega)
        show psu _ n + szF (lim M n) ≤ _
        have : sta M n = psu (fun i => szF (lim M i)) n := rfl
        omega
    have := this (d + 1)
    omega
