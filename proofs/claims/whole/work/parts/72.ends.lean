/-! GREATEST of a set; what can be had at the end. -/
def isG (P : Int → Prop) (v : Int) : Prop := P v ∧ ∀ w, P w → w ≤ v
theorem isG_u {P : Int → Prop} {v w : Int} (h : isG P v) (h' : isG P w) : v = w := by
  have h1 := h.2 _ h'.1
  have h2 := h'.2 _ h.1
  omega
theorem isG_c {P Q : Int → Prop} (e : ∀ w, P w ↔ Q w) {v : Int} (h : isG P v) : isG Q v := ⟨(e v).mp h.1, fun w hw => h.2 w ((e w).mpr hw)⟩
theorem isG_or {P Q : Int → Prop} {x y : Int} (h : isG P x) (h' : isG Q y) : isG (fun w => P w ∨ Q w) (if y < x then x else y) := by
  by_cases q : y < x
  · rw [if_pos q]
    exact ⟨Or.inl h.1, fun w hw => hw.elim (h.2 w) (fun hw => by have := h'.2 w hw; omega)⟩
  · rw [if_neg q]
    exact ⟨Or.inr h'.1, fun w hw => hw.elim (fun hw => by have := h.2 w hw; omega) (h'.2 w)⟩
theorem isG_ex {P : Int → Prop} (B : Int) (hB : ∀ v, P v → v ≤ B) (h : ∃ v, P v) : ∃ v, isG P v := by
  obtain ⟨v, hv⟩ := h
  have key : ∀ (n : Nat) (v : Int), P v → B - v ≤ n → ∃ v, isG P v := by
    intro n
    induction n with
    | zero =>
      intro v hv hn
      have h1 := hB v hv
      exact ⟨v, hv, fun w hw => by have := hB w hw; omega⟩
    | succ n ih =>
      intro v hv hn
      by_cases q : ∃ w, P w ∧ v < w
      · obtain ⟨w, hw, hl⟩ := q
        exact ih w hw (by omega)
      · refine ⟨v, hv, fun w hw => ?_⟩
        rcases Int.lt_or_le v w with hl | hl
        · exact absurd ⟨w, hw, hl⟩ q
        · exact hl
  exact key (B - v).toNat v hv (by omega)
noncomputable def gr (P : Int → Prop) : Int := Classical.epsilon (isG P)
theorem gr_e {P : Int → Prop} {v : Int} (h : isG P v) : gr P = v := isG_u (Classical.epsilon_spec (p := isG P) ⟨v, h⟩) h
/-- the greatest F of those that may be, of the first n -/
def mxo (p : Nat → Bool) (F : Nat → Int) : Nat → Option Int
  | 0 => none
  | n + 1 => if p n then some (match mxo p F n with
    | none => F n
    | some x => if F n < x then x else F n) else mxo p F n
theorem mxo_none {p : Nat → Bool} {F : Nat → Int} : ∀ {n : Nat}, mxo p F n = none → ∀ i, i < n → p i = false
  | 0, _, i, hi => by omega
  | n + 1, h, i, hi => by
    rw [mxo] at h
    split at h
    · cases h
    · next q =>
      by_cases e : i = n
      · rw [e]; simpa using q
      · exact mxo_none h i (by omega)
theorem mxo_isG {p : Nat → Bool} {F : Nat → Int} : ∀ {n : Nat} {x : Int}, mxo p F n = some x → isG (fun w => ∃ i, i < n ∧ p i = true ∧ w = F i) x
  | 0, x, h => by cases h
  | n + 1, x, h => by
    rw [mxo] at h
    split at h
    · next q =>
      have hx := Option.some.inj h
      cases e : mxo p F n with
      | none =>
        rw [e] at hx
        refine ⟨⟨n, by omega, q, hx.symm⟩, fun w hw => ?_⟩
        obtain ⟨i, hi, hp, rfl⟩ := hw
        by_cases e2 : i = n
        · rw [e2]; show F n ≤ x; have : F n = x := hx; omega
        · have := mxo_none e i (by omega)
          rw [this] at hp
          cases hp
      | some y =>
        rw [e] at hx
        have ih := mxo_isG e
        have hx2 : (if F n < y then y else F n) = x := hx
        have := isG_or ih (Q := fun w => w = F n) (y := F n) ⟨rfl, fun w hw => by have : w = F n := hw; omega⟩
        rw [hx2] at this
        refine isG_c (fun w => ⟨fun hw => ?_, fun hw => ?_⟩) this
        · rcases hw with ⟨i, hi, hp, hw⟩ | hw
          · exact ⟨i, by omega, hp, hw⟩
          · exact ⟨n, by omega, q, hw⟩
        · obtain ⟨i, hi, hp, hw⟩ := hw
          by_cases e2 : i = n
          · rw [e2] at hw; exact Or.inr hw
          · exact Or.inl ⟨i, by omega, hp, hw⟩
    · next q =>
      refine isG_c (fun w => ⟨fun hw => ?_, fun hw => ?_⟩) (mxo_isG h)
      · obtain ⟨i, hi, hp, hw⟩ := hw
        exact ⟨i, by omega, hp, hw⟩
      · obtain ⟨i, hi, hp, hw⟩ := hw
        by_cases e2 : i = n
        · rw [e2] at hp; exact absurd hp q
        · exact ⟨i, by omega, hp, hw⟩
theorem isG_U {A : Nat → Int → Prop} {p : Nat → Bool} {F : Nat → Int} {n : Nat} {x : Int} (h : ∀ i, i < n → p i = true → isG (A i) (F i)) (hx : isG (fun w => ∃ i, i < n ∧ p i = true ∧ w = F i) x) : isG (fun w => ∃ i, i < n ∧ p i = true ∧ A i w) x := by
  obtain ⟨⟨i, hi, hp, rfl⟩, h2⟩ := hx
  refine ⟨⟨i, hi, hp, (h i hi hp).1⟩, fun w hw => ?_⟩
  obtain ⟨k, hk, hpk, hw⟩ := hw
  exact Int.le_trans ((h k hk hpk).2 w hw) (h2 _ ⟨k, hk, hpk, rfl⟩)
theorem mxo_more {p : Nat → Bool} {F : Nat → Int} {n : Nat} : ∀ (k : Nat), (∀ i, n ≤ i → i < n + k → p i = false) → mxo p F (n + k) = mxo p F n
  | 0, _ => rfl
  | k + 1, h => by
    show mxo p F (n + k + 1) = _
    rw [mxo, h (n + k) (by omega) (by omega)]
    exact mxo_more k (fun i h1 h2 => h i h1 (by omega))
theorem mxo_bd {p : Nat → Bool} {F : Nat → Int} {n : Nat} {P : Int → Prop} (h : ∀ i, i < n → p i = true → P (F i)) {x : Int} (hx : mxo p F n = some x) : P x := by
  obtain ⟨i, hi, hp, e⟩ := (mxo_isG hx).1
  rw [e]
  exact h i hi hp
theorem mxo_congr {p : Nat → Bool} {F F' : Nat → Int} : ∀ {n : Nat}, (∀ i, i < n → p i = true → F i = F' i) → mxo p F n = mxo p F' n
  | 0, _ => rfl
  | n + 1, h => by
    rw [mxo, mxo, mxo_congr (n := n) (fun i hi => h i (by omega))]
    by_cases q : p n = true
    · rw [if_pos q, if_pos q, h n (by omega) q]
    · rw [if_neg q, if_neg q]
theorem mxo_congr2 {p p' : Nat → Bool} {F F' : Nat → Int} : ∀ {n : Nat}, (∀ i, i < n → p i = p' i ∧ (p i = true → F i = F' i)) → mxo p F n = mxo p' F' n
  | 0, _ => rfl
  | n + 1, h => by
    have h2 := h n (by omega)
    rw [mxo, mxo, mxo_congr2 (n := n) (fun i hi => h i (by omega)), h2.1]
    by_cases q : p' n = true
    · rw [if_pos q, if_pos q, h2.2 (h2.1.trans q)]
    · rw [if_neg q, if_neg q]
/-! the end -/
def gz (M : Mt) (g c : Nat) : Int := (gv M g c).toInt
theorem gsu_le {M : Mt} (hM : qOk M) {c : Nat} (hL : Lg M c) : gsu M c ≤ 1260 := by
  have h : ∀ h, h < 3 → cb c h = true → wv M c h h ≤ 420 := fun h h3 hb => wv_le hM (hL.2.1 h h3 hb)
  unfold gsu
  have := fo_I (fun a j => a ≤ 420 * j) (f := fun a h => if cb c h then a + wv M c h h else a) 3 0 0 (by omega) (fun a i _ h2 ha => by
    show (if cb c i = true then a + wv M c i i else a) ≤ _
    split
    · next q => have := h i (by omega) q; omega
    · omega)
  omega
theorem gsh_le {M : Mt} {c : Nat} : gsh M c ≤ 3000 := by
  unfold gsh
  exact fo_I (fun a _ => a ≤ 3000) (f := fun a h => if cb c h then (if a ≤ shr M c h then a else shr M c h) else a) 3 3000 0 (by omega) (fun a i _ h2 ha => by
    have := shr_le (M := M) (c := c) (h := i) (by omega)
    show (if cb c i = true then _ else a) ≤ 3000
    split
    · split <;> omega
    · exact ha)
theorem gz_b {M : Mt} (hM : qOk M) {g c : Nat} (hL : Lg M c) : -6 ≤ gz M g c ∧ gz M g c ≤ 3000 := by
  have h1 := gsu_le hM hL
  have h2 := gsh_le (M := M) (c := c)
  have h3 := gca_le hL
  unfold gz gv
  split
  · rw [nI_toInt (by omega)]; omega
  · split
    · have : (-nI (gca M c)).toInt = -((gca M c : Nat) : Int) := by
        have := pk_sub_toInt (a := 0) (b := gca M c) (by omega) (by omega)
        rw [show nI 0 - nI (gca M c) = -nI (gca M c) from by show (0 : Int32) - _ = _; rw [Int32.zero_sub]] at this
        rw [this]; simp
      rw [this]; omega
    · rw [nI_toInt (by omega)]; omega
def hs (c : Nat) : Nat := if 0 < am c 0 3 then 0 else if 0 < am c 1 3 then 1 else 2
def mvd (c s f t : Nat) : Nat := c - 8 ^ (4 * s + f) + 8 ^ (4 * s + t)
def hnd (c to : Nat) : Nat := mvd c (hs c) 3 to
theorem hs_lt (c : Nat) : hs c < 3 := by unfold hs; split <;> (try split) <;> omega
theorem hs_pos {c : Nat} (h : 0 < hl c) : 0 < am c (hs c) 3 := by
  unfold hl at h
  unfold hs
  split
  · assumption
  · split
    · assumption
    · omega
theorem Lg_take {M : Mt} {c s h : Nat} (hL : Lg M c) (hs : s < 3) (hh : h < 4) (h0 : 0 < am c s h) : Lg M (c - 8 ^ (4 * s + h)) := by
  refine ⟨Nat.lt_of_le_of_lt (Nat.sub_le _ _) hL.1, fun k hk hb => hL.2.1 k hk (by rwa [cb_sub hs hh h0] at hb), fun k hk hl => by rw [cb_sub hs hh h0]; exact hL.2.2.1 k hk hl, fun s' k hs' hk hp => ?_, ?_⟩
  · rw [cb_sub hs hh h0]
    rw [am_sub h0 hh (by omega)] at hp
    exact hL.2.2.2.1 s' k hs' hk (by omega)
  · have := tt_sub hs hh h0
    have := hL.2.2.2.2
    omega
theorem am7 {c s h : Nat} (hs : s < 3) (hh : h < 4) (h6 : tt c ≤ 6) : am c s h < 7 := by
  have h1 := am_th (c := c) (h := h) hs
  have h2 := th_tt (c := c) hh
  omega
theorem Lg_give {M : Mt} {c s h : Nat} (hL : Lg M c) (hs : s < 3) (hh : h < 4) (ht : h = 3 ∨ cb c h = true) (h6 : tt c < 6) : Lg M (c + 8 ^ (4 * s + h)) := by
  have h7 := am7 (c := c) hs hh (by omega)
  refine ⟨add_lt hL.1 (by omega) h7, fun k hk hb => hL.2.1 k hk (by rwa [cb_add hs hh h7] at hb), fun k hk hl => by rw [cb_add hs hh h7]; exact hL.2.2.1 k hk hl, fun s' k hs' hk hp => ?_, ?_⟩
  · rw [cb_add hs hh h7]
    rw [am_add h7 hh (by omega)] at hp
    by_cases e : s' = s ∧ k = h
    · obtain ⟨rfl, rfl⟩ := e
      exact ht.resolve_left (by omega)
    · rw [if_neg e] at hp
      exact hL.2.2.2.1 s' k hs' hk hp
  · rw [tt_add hs hh h7]; omega
theorem Lg_mvd {M : Mt} {c s f t : Nat} (hL : Lg M c) (hs : s < 3) (hf : f < 4) (ht : t < 3) (h0 : 0 < am c s f) (hb : cb c t = true) : Lg M (mvd c s f t) := by
  have h1 := tt_sub hs hf h0
  have h2 := hL.2.2.2.2
  exact Lg_give (Lg_take hL hs hf h0) hs (by omega) (Or.inr (by rw [cb_sub hs hf h0]; exact hb)) (by omega)
theorem am_mvd {c s f t : Nat} (h6 : tt c ≤ 6) (hs : s < 3) (hf : f < 4) (ht : t < 4) (h0 : 0 < am c s f) {s' k : Nat} (hk : k < 4) : am (mvd c s f t) s' k = am c s' k - (if s' = s ∧ k = f then 1 else 0) + (if s' = s ∧ k = t then 1 else 0) := by
  have h1 := tt_sub hs hf h0
  unfold mvd
  rw [am_add (am7 hs ht (by omega)) ht hk, am_sub h0 hf hk]
theorem cb_mvd {c s f t : Nat} (h6 : tt c ≤ 6) (hs : s < 3) (hf : f < 4) (ht : t < 4) (h0 : 0 < am c s f) (k : Nat) : cb (mvd c s f t) k = cb c k := by
  have h1 := tt_sub hs hf h0
  unfold mvd
  rw [cb_add hs ht (am7 hs ht (by omega)), cb_sub hs hf h0]
theorem tt_mvd {c s f t : Nat} (h6 : tt c ≤ 6) (hs : s < 3) (hf : f < 4) (ht : t < 4) (h0 : 0 < am c s f) : tt (mvd c s f t) = tt c := by
  have h1 := tt_sub hs hf h0
  unfold mvd
  rw [tt_add hs ht (am7 hs ht (by omega))]
  exact h1
theorem hl_mvd {c s f t : Nat} (h6 : tt c ≤ 6) (hs : s < 3) (hf : f < 3) (ht : t < 3) (h0 : 0 < am c s f) : hl (mvd c s f t) = hl c := by
  unfold hl
  rw [am_mvd h6 hs (by omega) (by omega) h0 (by omega), am_mvd h6 hs (by omega) (by omega) h0 (by omega), am_mvd h6 hs (by omega) (by omega) h0 (by omega)]
  simp [show ¬ 3 = f by omega, show ¬ 3 = t by omega]
theorem hl_hnd {c t : Nat} (h6 : tt c ≤ 6) (ht : t < 3) (h : 0 < hl c) : hl (hnd c t) + 1 = hl c := by
  have h0 := hs_pos h
  have h3 := hs_lt c
  unfold hnd
  have e : ∀ s', am (mvd c (hs c) 3 t) s' 3 = am c s' 3 - (if s' = hs c then 1 else 0) := by
    intro s'
    rw [am_mvd h6 h3 (by omega) (by omega) h0 (by omega)]
    simp [show ¬ 3 = t by omega]
  unfold hl at h ⊢
  rw [e, e, e]
  rcases (by omega : hs c = 0 ∨ hs c = 1 ∨ hs c = 2) with q | q | q <;> rw [q] at h0 ⊢ <;> simp <;> omega
/-- all that is held is given away -/
def HO : Nat → Nat → Nat → Prop
  | 0, c, c' => c' = c
  | n + 1, c, c' => ∃ to, to < 3 ∧ cb c to = true ∧ HO n (hnd c to) c'
/-- at most b things are taken back -/
def BK : Nat → Nat → Nat → Prop
  | 0, c, c' => c' = c
  | b + 1, c, c' => BK b c c' ∨ ∃ s f t, s < 3 ∧ f < 3 ∧ t < 3 ∧ f ≠ t ∧ 0 < am c s f ∧ cb c t = true ∧ BK b (mvd c s f t) c'
def EV (M : Mt) (g b c : Nat) (v : Int) : Prop := ∃ c1 c2, HO (hl c) c c1 ∧ BK b c1 c2 ∧ v = gz M g c2
noncomputable def gE (M : Mt) (g b c : Nat) : Int := gr (EV M g b c)
theorem HO_lg {M : Mt} : ∀ (n c c' : Nat), hl c = n → Lg M c → HO n c c' → Lg M c' ∧ hl c' = 0
  | 0, c, c', hn, hL, h => by
    have : c' = c := h
    rw [this]
    exact ⟨hL, hn⟩
  | n + 1, c, c', hn, hL, h => by
    obtain ⟨to, ht, hb, h⟩ := h
    have e := hl_hnd hL.2.2.2.2 ht (by omega)
    exact HO_lg n (hnd c to) c' (by omega) (Lg_mvd hL (hs_lt c) (by omega) ht (hs_pos (by omega)) hb) h
theorem BK_lg {M : Mt} : ∀ (b c c' : Nat), Lg M c → BK b c c' → Lg M c'
  | 0, c, c', hL, h => by
    have : c' = c := h
    rw [this]
    exact hL
  | b + 1, c, c', hL, h => by
    rcases h with h | ⟨s, f, t, hs, hf, ht, _, h0, hb, h⟩
    · exact BK_lg b c c' hL h
    · exact BK_lg b _ c' (Lg_mvd hL hs (by omega) ht h0 hb) h
theorem EV_b {M : Mt} (hM : qOk M) {g b c : Nat} (hL : Lg M c) {v : Int} (h : EV M g b c v) : -6 ≤ v ∧ v ≤ 3000 := by
  obtain ⟨c1, c2, h1, h2, rfl⟩ := h
  exact gz_b hM (BK_lg b _ _ (HO_lg _ _ _ rfl hL h1).1 h2)
theorem BK_rfl : ∀ (b c : Nat), BK b c c
  | 0, _ => rfl
  | b + 1, c => Or.inl (BK_rfl b c)
theorem Lg_one {M : Mt} (hE : qE M) (hM : qOk M) {c : Nat} (hL : Lg M c) : ∃ to, to < 3 ∧ to < qH M ∧ cb c to = true := by
  obtain ⟨h, h1, h2⟩ := hE
  have := hM.1
  exact ⟨h, by omega, h1, hL.2.2.1 h h1 h2⟩
theorem HO_ex {M : Mt} (hM : qOk M) (hE : qE M) : ∀ (n c : Nat), hl c = n → Lg M c → ∃ c', HO n c c'
  | 0, c, _, _ => ⟨c, rfl⟩
  | n + 1, c, hn, hL => by
    obtain ⟨to, ht, _, hb⟩ := Lg_one hE hM hL
    have e := hl_hnd hL.2.2.2.2 ht (by omega)
    obtain ⟨c', h⟩ := HO_ex hM hE n (hnd c to) (by omega) (Lg_mvd hL (hs_lt c) (by omega) ht (hs_pos (by omega)) hb)
    exact ⟨c', to, ht, hb, h⟩
theorem gE_is {M : Mt} (hM : qOk M) (hE : qE M) {g b c : Nat} (hL : Lg M c) : isG (EV M g b c) (gE M g b c) := by
  obtain ⟨c1, h1⟩ := HO_ex hM hE (hl c) c rfl hL
  obtain ⟨v, hv⟩ := isG_ex (P := EV M g b c) 3000 (fun v hv => (EV_b hM hL hv).2) ⟨gz M g c1, c1, c1, h1, BK_rfl b c1, rfl⟩
  have := gr_e hv
  unfold gE
  rw [this]
  exact hv
theorem gE_b {M : Mt} (hM : qOk M) (hE : qE M) {g b c : Nat} (hL : Lg M c) : -6 ≤ gE M g b c ∧ gE M g b c ≤ 3000 := EV_b hM hL (gE_is hM hE hL).1
theorem EV_h {M : Mt} {g b c : Nat} (h6 : tt c ≤ 6) (h : 0 < hl c) (v : Int) : EV M g b c v ↔ ∃ to, to < 3 ∧ cb c to = true ∧ EV M g b (hnd c to) v := by
  obtain ⟨n, hn⟩ : ∃ n, hl c = n + 1 := ⟨hl c - 1, by omega⟩
  constructor
  · intro ⟨c1, c2, h1, h2, h3⟩
    rw [hn] at h1
    obtain ⟨to, ht, hb, h1⟩ := h1
    have e := hl_hnd h6 ht h
    exact ⟨to, ht, hb, c1, c2, by rw [show hl (hnd c to) = n by omega]; exact h1, h2, h3⟩
  · intro ⟨to, ht, hb, c1, c2, h1, h2, h3⟩
    have e := hl_hnd h6 ht h
    rw [show hl (hnd c to) = n by omega] at h1
    exact ⟨c1, c2, by rw [hn]; exact ⟨to, ht, hb, h1⟩, h2, h3⟩
theorem EV_0 {M : Mt} {g c : Nat} (h : hl c = 0) (v : Int) : EV M g 0 c v ↔ v = gz M g c := by
  constructor
  · intro ⟨c1, c2, h1, h2, h3⟩
    rw [h] at h1
    have e1 : c1 = c := h1
    have e2 : c2 = c1 := h2
    rw [h3, e2, e1]
  · intro e
    exact ⟨c, c, by rw [h]; rfl, rfl, e⟩
theorem EV_s {M : Mt} {g b c : Nat} (h6 : tt c ≤ 6) (h : hl c = 0) (v : Int) : EV M g (b + 1) c v ↔ EV M g b c v ∨ ∃ s f t, s < 3 ∧ f < 3 ∧ t < 3 ∧ f ≠ t ∧ 0 < am c s f ∧ cb c t = true ∧ EV M g b (mvd c s f t) v := by
  constructor
  · intro ⟨c1, c2, h1, h2, h3⟩
    rw [h] at h1
    have e1 : c1 = c := h1
    subst e1
    rcases h2 with h2 | ⟨s, f, t, hs, hf, ht, hn, h0, hb, h2⟩
    · exact Or.inl ⟨c1, c2, by rw [h]; rfl, h2, h3⟩
    · exact Or.inr ⟨s, f, t, hs, hf, ht, hn, h0, hb, mvd c1 s f t, c2, by rw [hl_mvd h6 hs hf ht h0, h]; rfl, h2, h3⟩
  · intro q
    rcases q with ⟨c1, c2, h1, h2, h3⟩ | ⟨s, f, t, hs, hf, ht, hn, h0, hb, c1, c2, h1, h2, h3⟩
    · rw [h] at h1
      exact ⟨c1, c2, by rw [h]; exact h1, Or.inl (by have : c1 = c := h1; rw [this] at h2 ⊢; exact h2), h3⟩
    · rw [hl_mvd h6 hs hf ht h0, h] at h1
      have e1 : c1 = mvd c s f t := h1
      subst e1
      exact ⟨c, c2, by rw [h]; rfl, Or.inr ⟨s, f, t, hs, hf, ht, hn, h0, hb, h2⟩, h3⟩
