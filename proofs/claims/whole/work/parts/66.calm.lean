/-! CALM, and a goal of a state in which nothing is held. -/
def fde (M : Mt) (c one o : Nat) (a : Option Nat) (j : Nat) : Option Nat := if am c j o = 0 then a else match a with
  | none => some j
  | some b => if qW M one j ≤ qW M one b then some b else some j
/-- the dearest sort that o has -/
def de (M : Mt) (c one o : Nat) : Option Nat := fo (fde M c one o) none 0 3
def lof (M : Mt) (one o own : Nat) : Nat → Nat → Nat → Nat
  | 0, _, n => n
  | t + 1, c, n => if wv M c one o ≤ own then n else match de M c one o with
    | none => n
    | some s => lof M one o own t (c - 8 ^ (4 * s + o)) (n + 1)
theorem de_some {M : Mt} {c one o s : Nat} (h : de M c one o = some s) : s < 3 ∧ 0 < am c s o := by
  have r := fo_I (fun (a : Option Nat) j => ∀ v, a = some v → v < j ∧ 0 < am c v o) (f := fde M c one o) 3 none 0 (fun v h => by cases h) (fun a i h1 h2 ha v hv => by
    unfold fde at hv
    split at hv
    · have := ha v hv
      omega
    · cases a with
      | none => cases hv; omega
      | some b =>
        have := ha b rfl
        simp only at hv
        split at hv
        · cases hv; omega
        · cases hv; omega)
  have := r s h
  omega
theorem de_none {M : Mt} {c one o : Nat} (h : de M c one o = none) : ∀ s, s < 3 → am c s o = 0 := by
  have r := fo_I (fun (a : Option Nat) j => a = none → ∀ s, s < j → am c s o = 0) (f := fde M c one o) 3 none 0 (fun _ s hs => by omega) (fun a i h1 h2 ha hn s hs => by
    unfold fde at hn
    split at hn
    · next q =>
      by_cases e : s = i
      · rw [e]; exact q
      · exact ha hn s (by omega)
    · cases a with
      | none => cases hn
      | some b =>
        simp only at hn
        split at hn <;> cases hn)
  exact r h
theorem wv_pos {M : Mt} {c one o own : Nat} (h : ¬ wv M c one o ≤ own) : ∃ s, de M c one o = some s := by
  cases e : de M c one o with
  | some s => exact ⟨s, rfl⟩
  | none =>
    have z := de_none e
    exfalso
    apply h
    unfold wv
    rw [z 0 (by omega), z 1 (by omega), z 2 (by omega)]
    simp
theorem wv_sub {M : Mt} {c one o s : Nat} (hs : s < 3) (ho : o < 4) (h0 : 0 < am c s o) : wv M (c - 8 ^ (4 * s + o)) one o + qW M one s = wv M c one o := by
  unfold wv
  rw [am_sub h0 ho ho, am_sub h0 ho ho, am_sub h0 ho ho]
  obtain ⟨q, hq⟩ : ∃ q, am c s o = q + 1 := ⟨am c s o - 1, by omega⟩
  rcases (by omega : s = 0 ∨ s = 1 ∨ s = 2) with rfl | rfl | rfl <;> simp [hq, Nat.mul_add] <;> omega
theorem lof_le {M : Mt} {one o own : Nat} : ∀ t c n, lof M one o own t c n ≤ n + t
  | 0, c, n => by simp [lof]
  | t + 1, c, n => by
    rw [lof]
    split
    · omega
    · cases e : de M c one o with
      | none => simp only; omega
      | some s =>
        have := lof_le (M := M) (one := one) (o := o) (own := own) t (c - 8 ^ (4 * s + o)) (n + 1)
        simp only
        omega
theorem i_sub3 {a w : Nat} (b : Int32) (h : w ≤ a) : nI a - b - nI w = nI (a - w) - b := by
  have : nI a = nI (a - w) + nI w := by rw [nI_add]; congr 1; omega
  rw [this]
  grind
section CALM
variable {N : Nat} {S : St} {x : Nat} {m : Mm} {M : Mt} {c d : Nat}
theorem fde_lt {c one o j : Nat} {a : Option Nat} (hj : j < 3) (ha : ∀ v, a = some v → v < 3) : ∀ v, fde M c one o a j = some v → v < 3 := by
  intro v hv
  unfold fde at hv
  split at hv
  · exact ha v hv
  · cases a with
    | none => cases hv; omega
    | some b =>
      have := ha b rfl
      simp only at hv
      split at hv <;> cases hv <;> omega
theorem tC_de (hM : qOk M) (hW : CW m x M) (hc : c < 8 ^ 13) (hd : d < 8) (hN : 4 ≤ N) {one o : Nat} (h1 : one < qH M) (ho : o < 4) (x5 x8 : Int32) (K : Int32 → Int32 → Option Int32) : f_Goals_leftOut_L42 N S x (nI one) (nI o) x5 (cs c d) x8 m K N (-1) 0 = K (zOpt (de M c one o)) 3 := by
  refine loopI (fun n (a : Option Nat) j => f_Goals_leftOut_L42 N S x (nI one) (nI o) x5 (cs c d) x8 m K n (zOpt a) (nI j)) (fun a _ => ∀ v, a = some v → v < 3) (fde M c one o) 3 (fun a => K (zOpt a) 3) (fun n a j hj ha => ?_) (fun a j hj ha => fde_lt hj ha) (fun n a _ => ?_) 3 N none 0 (by omega) (by omega) (fun v h => by cases h)
  · show f_Goals_leftOut_L42 N S x (nI one) (nI o) x5 (cs c d) x8 m K (n + 1) (zOpt a) (nI j) = _
    have h8 := am_lt c j o
    rw [f_Goals_leftOut_L42, if_neg (n3nle hj), t_amount hc hd hj ho, b1_s]
    by_cases h0 : am c j o = 0
    · rw [if_pos (show nI (am c j o) ≤ 0 from nI_le (b := 0) (by omega) (by omega)), nI_1]
      simp [fde, h0]
    · rw [if_neg (nI_nle (by omega) (by omega))]
      cases a with
      | none =>
        rw [if_pos (show zOpt none = -1 from rfl), nI_1]
        simp [fde, h0, zOpt]
      | some b =>
        have hb := ha b rfl
        have w1 := hM.2.2.2.2.2.1 one j h1 hj
        have w2 := hM.2.2.2.2.2.1 one b h1 hb
        rw [if_neg (show ¬ zOpt (some b) = -1 from nI_m1 (by omega)), tW_worth hM hW h1 hj, b1_s]
        rw [show zOpt (some b) = nI b from rfl, tW_worth hM hW h1 hb, b1_s, nI_1]
        by_cases h2 : qW M one j ≤ qW M one b
        · rw [if_pos (nI_le h2 (by omega))]
          simp [fde, h0, h2, zOpt]
        · rw [if_neg (nI_ge (by omega) (by omega))]
          simp [fde, h0, h2, zOpt]
  · show f_Goals_leftOut_L42 N S x (nI one) (nI o) x5 (cs c d) x8 m K (n + 1) (zOpt a) (nI 3) = _
    rw [f_Goals_leftOut_L42, if_pos n3le]
    rfl
theorem tR_de (hM : qOk M) (hW : RW m M) (hN : 4 ≤ N) {one o : Nat} (h1 : one < qH M) (ho : o < 4) (x5 x6 x9 : Int32) (K : Int32 → Int32 → Option Int32) : f_Mo_leftOut_L38 N (nI one) (nI o) x5 x6 (rz c) x9 m K N (-1) 0 = K (zOpt (de M c one o)) 3 := by
  have hH := hM.1
  refine loopI (fun n (a : Option Nat) j => f_Mo_leftOut_L38 N (nI one) (nI o) x5 x6 (rz c) x9 m K n (zOpt a) (nI j)) (fun a _ => ∀ v, a = some v → v < 3) (fde M c one o) 3 (fun a => K (zOpt a) 3) (fun n a j hj ha => ?_) (fun a j hj ha => fde_lt hj ha) (fun n a _ => ?_) 3 N none 0 (by omega) (by omega) (fun v h => by cases h)
  · show f_Mo_leftOut_L38 N (nI one) (nI o) x5 x6 (rz c) x9 m K (n + 1) (zOpt a) (nI j) = _
    have h8 := am_lt c j o
    rw [f_Mo_leftOut_L38, if_neg (n3nle hj), t_Mthings hj ho, b1_s]
    by_cases h0 : am c j o = 0
    · rw [if_pos (show nI (am c j o) ≤ 0 from nI_le (b := 0) (by omega) (by omega)), nI_1]
      simp [fde, h0]
    · rw [if_neg (nI_nle (by omega) (by omega))]
      cases a with
      | none =>
        rw [if_pos (show zOpt none = -1 from rfl), nI_1]
        simp [fde, h0, zOpt]
      | some b =>
        have hb := ha b rfl
        have w1 := hM.2.2.2.2.2.1 one j h1 hj
        have w2 := hM.2.2.2.2.2.1 one b h1 hb
        rw [if_neg (show ¬ zOpt (some b) = -1 from nI_m1 (by omega)), show zOpt (some b) = nI b from rfl, r_ix3, r_ix3, ck_t (nI_in (by omega) (by omega)), ck_t (nI_in (by omega) (by omega)), nI_clamp (by omega), nI_clamp (by omega), hW.2.2.2.2.1 one j h1 hj, hW.2.2.2.2.1 one b h1 hb, nI_1]
        by_cases h2 : qW M one j ≤ qW M one b
        · rw [if_pos (nI_le h2 (by omega))]
          simp [fde, h0, h2, zOpt]
        · rw [if_neg (nI_ge (by omega) (by omega))]
          simp [fde, h0, h2, zOpt]
  · show f_Mo_leftOut_L38 N (nI one) (nI o) x5 x6 (rz c) x9 m K (n + 1) (zOpt a) (nI 3) = _
    rw [f_Mo_leftOut_L38, if_pos n3le]
    rfl
theorem s_le0 {a b : Nat} (ha : a < 2 ^ 30) (hb : b < 2 ^ 30) : nI a - nI b ≤ 0 ↔ a ≤ b := by
  rw [Int32.le_iff_toInt_le, pk_sub_toInt ha hb]
  simp
  omega
theorem tC_lof (hM : qOk M) (hW : CW m x M) (hd : d < 8) (hN : 4 ≤ N) {one o own : Nat} (h1 : one < qH M) (ho : o < 4) (hown : own ≤ 420) : ∀ (t c n fuel : Nat), th c o = t → n + t ≤ 6 → t < fuel → c < 8 ^ 13 → f_Goals_leftOut_L24 N S x (nI one) (nI o) m (fun (z24_5 : Int32) (z24_6 : Int64) (z24_8 : Int32) => some z24_8) fuel (nI (wv M c one o) - nI own) (cs c d) (nI n) = some (nI (lof M one o own t c n)) := by
  intro t
  induction t with
  | zero =>
    intro c n fuel ht hn hf hc
    obtain ⟨f, rfl⟩ : ∃ f, fuel = f + 1 := ⟨fuel - 1, by omega⟩
    have hw := wv_le hM (c := c) (k := o) h1
    have h0 : wv M c one o ≤ own := by
      unfold th at ht
      unfold wv
      rw [show am c 0 o = 0 by omega, show am c 1 o = 0 by omega, show am c 2 o = 0 by omega]
      simp
    rw [f_Goals_leftOut_L24, if_pos ((s_le0 (by omega) (by omega)).mpr h0), lof]
  | succ t ih =>
    intro c n fuel ht hn hf hc
    obtain ⟨f, rfl⟩ : ∃ f, fuel = f + 1 := ⟨fuel - 1, by omega⟩
    have hw := wv_le hM (c := c) (k := o) h1
    rw [f_Goals_leftOut_L24, lof]
    by_cases h0 : wv M c one o ≤ own
    · rw [if_pos ((s_le0 (by omega) (by omega)).mpr h0), if_pos h0]
    · rw [if_neg (fun q => h0 ((s_le0 (by omega) (by omega)).mp q)), if_neg (show ¬ (6 : Int32) ≤ nI n from nI_ge (b := 6) (by omega) (by omega)), if_neg h0, tC_de hM hW hc hd hN h1 ho]
      obtain ⟨s, hs⟩ := wv_pos h0
      obtain ⟨s3, s0⟩ := de_some hs
      have e := wv_sub (M := M) (one := one) s3 ho s0
      have e2 := th_sub s3 ho s0 ho
      rw [if_pos rfl] at e2
      rw [hs, if_neg (show ¬ zOpt (some s) = -1 from nI_m1 (by omega)), show zOpt (some s) = nI s from rfl, t_one s3 ho, b1_s, tW_worth hM hW h1 s3, b1_s, cs_sub s0, i_sub3 _ (by omega), nI_1, show wv M c one o - qW M one s = wv M (c - 8 ^ (4 * s + o)) one o by omega]
      exact ih _ _ _ (by omega) (by omega) (by omega) (Nat.lt_of_le_of_lt (Nat.sub_le _ _) hc)
theorem tR_lof (hM : qOk M) (hW : RW m M) (hN : 4 ≤ N) {one o own : Nat} (h1 : one < qH M) (ho : o < 4) (hown : own ≤ 420) : ∀ (t c n fuel : Nat), th c o = t → n + t ≤ 6 → t < fuel → c < 8 ^ 13 → f_Mo_leftOut_L25 N (nI one) (nI o) (nI own) m (fun (z22_6 : Int32) (z22_7 : Int64) (z22_9 : Int32) => some z22_9) fuel (nI (wv M c one o)) (rz c) (nI n) = some (nI (lof M one o own t c n)) := by
  intro t
  have hH := hM.1
  induction t with
  | zero =>
    intro c n fuel ht hn hf hc
    obtain ⟨f, rfl⟩ : ∃ f, fuel = f + 1 := ⟨fuel - 1, by omega⟩
    have hw := wv_le hM (c := c) (k := o) h1
    have h0 : wv M c one o ≤ own := by
      unfold th at ht
      unfold wv
      rw [show am c 0 o = 0 by omega, show am c 1 o = 0 by omega, show am c 2 o = 0 by omega]
      simp
    rw [f_Mo_leftOut_L25, if_pos (nI_le h0 (by omega)), lof]
  | succ t ih =>
    intro c n fuel ht hn hf hc
    obtain ⟨f, rfl⟩ : ∃ f, fuel = f + 1 := ⟨fuel - 1, by omega⟩
    have hw := wv_le hM (c := c) (k := o) h1
    rw [f_Mo_leftOut_L25, lof]
    by_cases h0 : wv M c one o ≤ own
    · rw [if_pos (nI_le h0 (by omega)), if_pos h0]
    · rw [if_neg (nI_ge (by omega) (by omega)), if_neg h0, tR_de hM hW hN h1 ho]
      obtain ⟨s, hs⟩ := wv_pos h0
      obtain ⟨s3, s0⟩ := de_some hs
      have e := wv_sub (M := M) (one := one) s3 ho s0
      have e2 := th_sub s3 ho s0 ho
      rw [if_pos rfl] at e2
      rw [hs, show zOpt (some s) = nI s from rfl, t_Mone s3 ho, b1_s, r_ix3, ck_t (nI_in (by omega) (by omega)), nI_clamp (by omega), hW.2.2.2.2.1 one s h1 s3, rz_sub hc s3 ho s0, pk_sub (by omega), nI_1, show wv M c one o - qW M one s = wv M (c - 8 ^ (4 * s + o)) one o by omega]
      exact ih _ _ _ (by omega) (by omega) (by omega) (Nat.lt_of_le_of_lt (Nat.sub_le _ _) hc)
def loq (M : Mt) (c h k : Nat) : Nat := lof M h k (wv M c h h) (th c k) c 0
theorem loq_le (hL : Lg M c) {h k : Nat} (hk : k < 4) : loq M c h k ≤ 6 := by
  have h1 := lof_le (M := M) (one := h) (o := k) (own := wv M c h h) (th c k) c 0
  have h2 := th_tt (c := c) hk
  have h3 := hL.2.2.2.2
  unfold loq
  omega
theorem tC_leftOut (hM : qOk M) (hW : CW m x M) (hL : Lg M c) (hd : d < 8) (hN : 10 ≤ N) {one o : Nat} (h1 : one < qH M) (ho : o < 3) : f_Goals_leftOut N S x (cs c d) (nI one) (nI o) m = some (nI (loq M c one o)) := by
  have h2 := th_tt (c := c) (h := o) (by omega)
  have h3 := hL.2.2.2.2
  have hH := hM.1
  unfold f_Goals_leftOut
  rw [tW_value hM hW (by omega) hL.1 hd h1 (by omega), b1_s, tW_value hM hW (by omega) hL.1 hd h1 (by omega), b1_s]
  exact tC_lof hM hW hd (by omega) h1 (by omega) (wv_le hM h1) (th c o) c 0 N rfl (by omega) (by omega) hL.1
theorem tR_leftOut (hM : qOk M) (hW : RW m M) (hL : Lg M c) (hN : 10 ≤ N) {one o : Nat} (h1 : one < qH M) (ho : o < 3) : f_Mo_leftOut N (rz c) (nI one) (nI o) m = some (nI (loq M c one o)) := by
  have h2 := th_tt (c := c) (h := o) (by omega)
  have h3 := hL.2.2.2.2
  have hH := hM.1
  unfold f_Mo_leftOut
  rw [tR_worthTo hM hW (by omega) h1 (by omega), b1_s, tR_worthTo hM hW (by omega) h1 (by omega), b1_s]
  exact tR_lof hM hW (by omega) h1 (by omega) (wv_le hM h1) (th c o) c 0 N rfl (by omega) (by omega) hL.1
def gci (M : Mt) (c h a k : Nat) : Nat := if k ≠ h ∧ cb c k = true then (if a < loq M c h k then loq M c h k else a) else a
def gco (M : Mt) (c a h : Nat) : Nat := if cb c h then fo (gci M c h) a 0 3 else a
def gca (M : Mt) (c : Nat) : Nat := fo (gco M c) 0 0 3
theorem gci_le (hL : Lg M c) {h a k : Nat} (hk : k < 4) (ha : a ≤ 6) : gci M c h a k ≤ 6 := by
  have := loq_le hL (h := h) hk
  unfold gci
  split
  · split <;> omega
  · exact ha
theorem gci_fo (hL : Lg M c) {h a : Nat} (ha : a ≤ 6) : fo (gci M c h) a 0 3 ≤ 6 := fo_I (fun a _ => a ≤ 6) 3 a 0 ha (fun a i _ h2 h => gci_le hL (by omega) h)
theorem gco_le (hL : Lg M c) {a h : Nat} (ha : a ≤ 6) : gco M c a h ≤ 6 := by
  unfold gco
  split
  · exact gci_fo hL ha
  · exact ha
theorem gca_le (hL : Lg M c) : gca M c ≤ 6 := fo_I (fun a _ => a ≤ 6) 3 0 0 (by omega) (fun a i _ _ h => gco_le hL h)
theorem tC_most17 (hM : qOk M) (hW : CW m x M) (hL : Lg M c) (hd : d < 8) (hN : 10 ≤ N) {one a : Nat} (h1 : one < qH M) (ha : a ≤ 6) (K : Int32 → Int32 → Option Int32) : f_Goals_mostLeftOut_L17 N S x (cs c d) (nI one) m K N (nI a) 0 = K (nI (gco M c a one)) (nI (qH M)) := by
  have hH := hM.1
  have := loopI (fun n (a : Nat) j => f_Goals_mostLeftOut_L17 N S x (cs c d) (nI one) m K n (nI a) (nI j)) (fun a _ => a ≤ 6) (fun a k => if cb c one then gci M c one a k else a) (qH M) (fun a => K (nI a) (nI (qH M))) (fun n a j hj ha => ?_) (fun a j hj ha => ?_) (fun n a _ => ?_) (qH M) N a 0 (by omega) (by omega) ha
  · refine this.trans ?_
    have e := fo_more (f := fun a k => if cb c one then gci M c one a k else a) (qH M) (3 - qH M) a 0 (fun a i h1 h2 => by
      cases q : cb c i
      · simp [gci, q]
      · have := hL.2.1 i (by omega) q
        omega)
    rw [show qH M + (3 - qH M) = 3 by omega] at e
    rw [← e]
    unfold gco
    cases q : cb c one
    · rfl
    · simp
  · show f_Goals_mostLeftOut_L17 N S x (cs c d) (nI one) m K (n + 1) (nI a) (nI j) = _
    rw [f_Goals_mostLeftOut_L17, hW.1, if_neg (nI_ge hj (by omega)), nI_1]
    by_cases h2 : one = j
    · rw [if_pos (by rw [h2])]
      simp [gci, h2]
    · rw [if_neg (fun q => h2 ((nI_eq (by omega) (by omega)).mp q)), t_isThere hL.1 hd (by omega), b1_s]
      cases e1 : cb c one
      · rw [if_pos (by simp [tf])]
        simp
      · rw [if_neg (by simp [tf]), t_isThere hL.1 hd (by omega), b1_s]
        cases e2 : cb c j
        · rw [if_pos (by simp [tf])]
          simp [gci, e2]
        · have h3 := loq_le hL (h := one) (k := j) (by omega)
          rw [if_neg (by simp [tf]), tC_leftOut hM hW hL hd hN h1 (by omega), b1_s]
          by_cases h4 : a < loq M c one j
          · rw [if_pos (nI_lt h4 (by omega))]
            simp [gci, e2, h4, Ne.symm h2]
          · rw [if_neg (nI_nlt (by omega) (by omega))]
            simp [gci, e2, h4]
  · show (if cb c one = true then gci M c one a j else a) ≤ 6
    split
    · exact gci_le hL (by omega) ha
    · exact ha
  · show f_Goals_mostLeftOut_L17 N S x (cs c d) (nI one) m K (n + 1) (nI a) (nI (qH M)) = _
    rw [f_Goals_mostLeftOut_L17, hW.1, if_pos (nI_le (Nat.le_refl _) (by omega))]
theorem tC_most (hM : qOk M) (hW : CW m x M) (hL : Lg M c) (hd : d < 8) (hN : 10 ≤ N) : f_Goals_mostLeftOut N S x (cs c d) m = some (nI (gca M c)) := by
  have hH := hM.1
  unfold f_Goals_mostLeftOut
  have := loopI (fun n (a : Nat) j => f_Goals_mostLeftOut_L5 N S x (cs c d) m (fun (z18_3 : Int32) (z18_4 : Int32) => some z18_3) n (nI a) (nI j)) (fun a _ => a ≤ 6) (gco M c) (qH M) (fun a => some (nI a)) (fun n a j hj ha => ?_) (fun a j hj ha => gco_le hL ha) (fun n a _ => ?_) (qH M) N 0 0 (by omega) (by omega) (by omega)
  · refine this.trans ?_
    have e := fo_more (f := gco M c) (qH M) (3 - qH M) 0 0 (fun a i h1 h2 => by
      cases q : cb c i
      · simp [gco, q]
      · have := hL.2.1 i (by omega) q
        omega)
    rw [show qH M + (3 - qH M) = 3 by omega] at e
    unfold gca
    rw [e]
  · show f_Goals_mostLeftOut_L5 N S x (cs c d) m _ (n + 1) (nI a) (nI j) = _
    rw [f_Goals_mostLeftOut_L5, hW.1, if_neg (nI_ge hj (by omega)), tC_most17 hM hW hL hd hN hj ha, nI_1]
  · show f_Goals_mostLeftOut_L5 N S x (cs c d) m _ (n + 1) (nI a) (nI (qH M)) = _
    rw [f_Goals_mostLeftOut_L5, hW.1, if_pos (nI_le (Nat.le_refl _) (by omega))]
/-- a goal of a state -/
def gv (M : Mt) (g c : Nat) : Int32 := if g = 0 then nI (gsh M c) else if g = 1 then -nI (gca M c) else nI (gsu M c)
theorem tR_goal1 (hM : qOk M) (hW : RW m M) (hL : Lg M c) (hN : 10 ≤ N) {h a : Nat} (hh : h < qH M) (ha : a ≤ 6) (K : Int32 → Int32 → Option Int32) : f_Mo_goalOf_L56 N (rz c) 1 (nI h) m K N (nI a) 0 = K (nI (fo (gci M c h) a 0 3)) 3 := by
  have hH := hM.1
  refine loopI (fun n (a : Nat) j => f_Mo_goalOf_L56 N (rz c) 1 (nI h) m K n (nI a) (nI j)) (fun a _ => a ≤ 6) (gci M c h) 3 (fun a => K (nI a) 3) (fun n a j hj ha => ?_) (fun a j hj ha => gci_le hL (by omega) ha) (fun n a _ => ?_) 3 N a 0 (by omega) (by omega) ha
  · show f_Mo_goalOf_L56 N (rz c) 1 (nI h) m K (n + 1) (nI a) (nI j) = _
    rw [f_Mo_goalOf_L56, if_neg (n3nle hj), if_pos rfl]
    simp only [jn]
    rw [nI_1]
    by_cases h2 : j = h
    · rw [if_pos (by rw [h2]), if_pos (show (0 : Int32) ≤ nI a from nI_le (a := 0) (by omega) (by omega))]
      simp [gci, h2]
    · rw [if_neg (fun q => h2 ((nI_eq (by omega) (by omega)).mp q)), t_MhasCome (by omega), b1_s]
      cases e1 : cb c j
      · rw [if_pos (by simp [tf]), if_pos (show (0 : Int32) ≤ nI a from nI_le (a := 0) (by omega) (by omega))]
        simp [gci, e1]
      · have h3 := loq_le hL (h := h) (k := j) (by omega)
        rw [if_neg (by simp [tf]), tR_leftOut hM hW hL hN hh hj, b1_s]
        by_cases h4 : a < loq M c h j
        · rw [if_neg (nI_ge h4 (by omega))]
          simp [gci, e1, h4, h2]
        · rw [if_pos (nI_le (by omega) (by omega))]
          simp [gci, e1, h4]
  · show f_Mo_goalOf_L56 N (rz c) 1 (nI h) m K (n + 1) (nI a) (nI 3) = _
    rw [f_Mo_goalOf_L56, if_pos n3le]
    rfl
theorem tR_goalOf (hM : qOk M) (hW : RW m M) (hL : Lg M c) (hN : 10 ≤ N) {g : Nat} (hg : g < 3) : f_Mo_goalOf N (rz c) (nI g) m = some (gv M g c) := by
  have hH := hM.1
  unfold f_Mo_goalOf gv
  by_cases g0 : g = 0
  · subst g0
    rw [if_pos (show nI 0 = 0 from rfl), tR_share hM hW hL (by omega), b1_s, if_pos rfl]
  · rw [if_neg (nI_ne0 (by omega) (by omega)), if_neg g0]
    by_cases g1 : g = 1
    · subst g1
      rw [if_pos rfl]
      refine loopI (fun n (a : Nat) j => f_Mo_goalOf_L16 N (rz c) (nI 1) m (fun (z26_4 : Int32) (z26_5 : Int32) => (if nI 1 = 1 then some ((-z26_4)) else some z26_4)) n (nI a) (nI j)) (fun a _ => a ≤ 6) (gco M c) 3 (fun a => some (-nI a)) (fun n a j hj ha => ?_) (fun a j hj ha => gco_le hL ha) (fun n a _ => ?_) 3 N 0 0 (by omega) (by omega) (by omega)
      · show f_Mo_goalOf_L16 N (rz c) (nI 1) m _ (n + 1) (nI a) (nI j) = _
        rw [f_Mo_goalOf_L16, if_neg (n3nle hj), t_MhasCome (by omega), b1_s, nI_1]
        cases e1 : cb c j
        · rw [if_pos (by simp [tf])]
          simp [gco, e1]
        · have hq := hL.2.1 j hj e1
          rw [if_neg (by simp [tf])]
          simp only [jn]
          rw [if_neg (show ¬ nI 1 = 2 by decide), show nI 1 = 1 from rfl, tR_goal1 hM hW hL hN hq ha]
          simp [gco, e1]
      · show f_Mo_goalOf_L16 N (rz c) (nI 1) m _ (n + 1) (nI a) (nI 3) = _
        rw [f_Mo_goalOf_L16, if_pos n3le, if_pos (show nI 1 = 1 from rfl)]
    · have : g = 2 := by omega
      subst this
      rw [if_neg (by omega)]
      refine loopF (fun n (a : Nat) j => f_Mo_goalOf_L16 N (rz c) (nI 2) m (fun (z26_4 : Int32) (z26_5 : Int32) => (if nI 2 = 1 then some ((-z26_4)) else some z26_4)) n (nI a) (nI j)) (fun a h => if cb c h then a + wv M c h h else a) 3 (fun a => some (nI a)) (fun n a j hj => ?_) (fun n a => ?_) 3 N 0 0 (by omega) (by omega)
      · show f_Mo_goalOf_L16 N (rz c) (nI 2) m _ (n + 1) (nI a) (nI j) = _
        rw [f_Mo_goalOf_L16, if_neg (n3nle hj), t_MhasCome (by omega), b1_s, nI_1]
        cases e1 : cb c j
        · rw [if_pos (by simp [tf])]
          simp
        · have hq := hL.2.1 j hj e1
          rw [if_neg (by simp [tf])]
          simp only [jn]
          rw [if_pos (show nI 2 = 2 from rfl), tR_worthTo hM hW (by omega) hq (by omega), b1_s, nI_add]
          obtain ⟨q, hq⟩ : ∃ q, N = q + 1 := ⟨N - 1, by omega⟩
          have : ∀ (K : Int32 → Int32 → Option Int32) (z : Int32), f_Mo_goalOf_L56 N (rz c) (nI 2) (nI j) m K N z 0 = K z 0 := by
            intro K z
            conv => lhs; arg 7; rw [hq]
            rw [f_Mo_goalOf_L56, if_neg (by decide), if_neg (show ¬ nI 2 = 1 by decide)]
          rw [this]
          simp
      · show f_Mo_goalOf_L16 N (rz c) (nI 2) m _ (n + 1) (nI a) (nI 3) = _
        rw [f_Mo_goalOf_L16, if_pos n3le, if_neg (show ¬ nI 2 = 1 by decide)]
end CALM
