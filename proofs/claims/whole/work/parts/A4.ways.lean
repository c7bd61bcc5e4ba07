/-! WAYS of giving by rule: the class. -/
def clm (M : Mt) (way c s h : Nat) : Int := if way = 1 then -(th c h : Int) else if way = 2 then -(wv M c h h : Int) else (qW M h s : Int)
def gwy (M : Mt) (way c s : Nat) : Nat := if way = 3 ∧ hl c < qO M then 3 else (amx (cb c) (clm M way c s) 3).getD 0
noncomputable def gft (M : Mt) (way n c s : Nat) : Nat := if way = 4 then (amx (fun to => may M c to (qO M)) (fun to => vS M false (qO M) 0 (qB M) n (c + 8 ^ (4 * s + to))) 4).getD 0 else gwy M way c s
noncomputable def nxW (M : Mt) (way n c d a : Nat) : Nat := if qK M d a = 0 then c + 8 ^ (4 * qG M d a + gft M way n c (qG M d a)) else pas M c d a
noncomputable def oW (M : Mt) (way : Nat) (mean : Bool) (g : Nat) : Nat → Nat → Int
  | 0, c => gE M g (qB M) c
  | n + 1, c => if mean then sumA (qA M (qD M - (n + 1))) (fun a => (qC M (qD M - (n + 1)) a : Int) * oW M way mean g n (nxW M way n c (qD M - (n + 1)) a)) else minA (qA M (qD M - (n + 1))) (fun a => oW M way mean g n (nxW M way n c (qD M - (n + 1)) a))
theorem amx_more {p : Nat → Bool} {F : Nat → Int} {n : Nat} : ∀ (k : Nat), (∀ i, n ≤ i → i < n + k → p i = false) → amx p F (n + k) = amx p F n
  | 0, _ => rfl
  | k + 1, h => by
    show amx p F (n + k + 1) = _
    rw [amx, h (n + k) (by omega) (by omega)]
    exact amx_more k (fun i h1 h2 => h i h1 (by omega))
theorem amx_cb {M : Mt} (hM : qOk M) {c : Nat} (hL : Lg M c) (F : Nat → Int) : amx (cb c) F 3 = amx (cb c) F (qH M) := by
  have hH := hM.1
  have := amx_more (p := cb c) (F := F) (n := qH M) (3 - qH M) (fun i h1 h2 => by
    cases q : cb c i
    · rfl
    · have := hL.2.1 i (by omega) q
      omega)
  rw [show qH M + (3 - qH M) = 3 by omega] at this
  exact this
theorem amx_ex {M : Mt} (hM : qOk M) (hE : qE M) {c : Nat} (hL : Lg M c) (F : Nat → Int) : ∃ b, amx (cb c) F 3 = some b ∧ b < qH M ∧ cb c b = true := by
  cases e : amx (cb c) F 3 with
  | none =>
    obtain ⟨to, h3, h1, h2⟩ := Lg_one hE hM hL
    rw [mxo_none (amx_none e) to h3] at h2
    cases h2
  | some b =>
    obtain ⟨a1, a2, _, _⟩ := amx_some e
    exact ⟨b, rfl, hL.2.1 b a1 a2, a2⟩
theorem gft_may {M : Mt} (hM : qOk M) (hE : qE M) {way n c s : Nat} (hL : Lg M c) : gft M way n c s < 4 ∧ may M c (gft M way n c s) (qO M) = true := by
  have hH := hM.1
  unfold gft
  split
  · cases e : amx (fun to => may M c to (qO M)) (fun to => vS M false (qO M) 0 (qB M) n (c + 8 ^ (4 * s + to))) 4 with
    | none =>
      obtain ⟨x, hx⟩ := gif_some hM hE (ho := qO M) (s := s) (F := vS M false (qO M) 0 (qB M) n) hL
      have : mxo (fun to => may M c to (qO M)) (fun to => vS M false (qO M) 0 (qB M) n (c + 8 ^ (4 * s + to))) 4 = some x := hx
      rw [amx_none e] at this
      cases this
    | some b =>
      obtain ⟨a1, a2, _, _⟩ := amx_some e
      exact ⟨a1, a2⟩
  · unfold gwy
    split
    · next q => exact ⟨by omega, by unfold may; rw [if_pos rfl]; exact decide_eq_true q.2⟩
    · obtain ⟨b, e, h1, h2⟩ := amx_ex hM hE hL (clm M way c s)
      rw [e]
      refine ⟨by show b < 4; omega, ?_⟩
      show may M c b (qO M) = true
      unfold may
      rw [if_neg (by omega)]
      simp [h1, h2]
theorem nxW_suc {M : Mt} (hM : qOk M) (hE : qE M) {way n c d a : Nat} (hL : Lg M c) : Suc M (qO M) c d a (nxW M way n c d a) := by
  unfold Suc nxW
  by_cases q : qK M d a = 0
  · rw [if_pos q, if_pos q]
    obtain ⟨h1, h2⟩ := gft_may hM hE (way := way) (n := n) (s := qG M d a) hL
    exact ⟨_, h1, h2, rfl⟩
  · rw [if_neg q, if_neg q]
theorem oW_b {M : Mt} (hM : qOk M) (hE : qE M) {way : Nat} {mean : Bool} {g : Nat} : ∀ (n c : Nat), n ≤ qD M → Ds M (qO M) (qD M - n) c → -(3000 * 36 ^ n) ≤ oW M way mean g n c ∧ oW M way mean g n c ≤ 3000 * 36 ^ n
  | 0, c, _, h => by
    have := gE_b hM hE (g := g) (b := qB M) h.1
    rw [oW]
    omega
  | n + 1, c, hn, h => by
    have hd : qD M - (n + 1) < qD M := by omega
    have hA := (hM.2.2.2.2.2.2.1 _ hd)
    have ed : qD M - (n + 1) + 1 = qD M - n := by omega
    have hD := hM.2.1
    have key : ∀ a, a < qA M (qD M - (n + 1)) → -(3000 * 36 ^ n) ≤ oW M way mean g n (nxW M way n c (qD M - (n + 1)) a) ∧ oW M way mean g n (nxW M way n c (qD M - (n + 1)) a) ≤ 3000 * 36 ^ n := by
      intro a ha
      refine oW_b hM hE n _ (by omega) ?_
      rw [← ed]
      exact Ds_suc hM h hd ha (nxW_suc hM hE h.1)
    rw [oW]
    have e36 : (36 : Int) ^ (n + 1) = 36 ^ n * 36 := by rw [Int.pow_succ]
    have hpos : (0 : Int) ≤ 36 ^ n := Int.pow_nonneg (by omega)
    rw [e36]
    split
    · have := sumA_b (n := qA M (qD M - (n + 1))) (B := 12 * (3000 * 36 ^ n)) (f := fun a => (qC M (qD M - (n + 1)) a : Int) * oW M way mean g n (nxW M way n c (qD M - (n + 1)) a)) (fun i hi => by
        have hc := (hM.2.2.2.2.2.2.2 _ i hd hi).1
        obtain ⟨k1, k2⟩ := key i hi
        have hc0 : (0 : Int) ≤ (qC M (qD M - (n + 1)) i : Int) := Int.natCast_nonneg _
        have hc1 : (qC M (qD M - (n + 1)) i : Int) ≤ 12 := by omega
        have a2 : (qC M (qD M - (n + 1)) i : Int) * (3000 * 36 ^ n) ≤ 12 * (3000 * 36 ^ n) := Int.mul_le_mul_of_nonneg_right hc1 (by omega)
        refine ⟨?_, ?_⟩
        · have a1 : (qC M (qD M - (n + 1)) i : Int) * (-(3000 * 36 ^ n)) ≤ (qC M (qD M - (n + 1)) i : Int) * oW M way mean g n (nxW M way n c (qD M - (n + 1)) i) := Int.mul_le_mul_of_nonneg_left k1 hc0
          rw [Int.mul_neg] at a1
          show -(12 * (3000 * 36 ^ n)) ≤ (qC M (qD M - (n + 1)) i : Int) * oW M way mean g n (nxW M way n c (qD M - (n + 1)) i)
          omega
        · have a1 : (qC M (qD M - (n + 1)) i : Int) * oW M way mean g n (nxW M way n c (qD M - (n + 1)) i) ≤ (qC M (qD M - (n + 1)) i : Int) * (3000 * 36 ^ n) := Int.mul_le_mul_of_nonneg_left k2 hc0
          exact Int.le_trans a1 a2)
      have h3 : ((qA M (qD M - (n + 1)) : Nat) : Int) * (12 * (3000 * 36 ^ n)) ≤ 3 * (12 * (3000 * 36 ^ n)) := Int.mul_le_mul_of_nonneg_right (by omega) (by omega)
      omega
    · obtain ⟨_, _, h3⟩ := minA_is (fun a => oW M way mean g n (nxW M way n c (qD M - (n + 1)) a)) (qA M (qD M - (n + 1)))
      rcases h3 with ⟨i, hi, e⟩ | ⟨e, _⟩
      · rw [e]
        have := key i hi
        omega
      · omega
theorem oW_sm {M : Mt} (hM : qOk M) (hE : qE M) {way : Nat} {mean : Bool} {g n c : Nat} (hn : n ≤ qD M) (h : Ds M (qO M) (qD M - n) c) : sm6 (oW M way mean g n c) := by
  have h1 := oW_b hM hE (way := way) (mean := mean) (g := g) n c hn h
  have h2 := p36_le (n := n) (by have := hM.2.1; omega)
  exact ⟨by omega, by omega⟩
section CWAYS
variable {N : Nat} {M : Mt}
theorem iz_n {n : Nat} : nI n = iz (n : Int) := (Int32.ofInt_eq_ofNat (n := n)).symm
theorem iz_neg {v : Int} : -iz v = iz (-v) := (Int32.ofInt_neg v).symm
theorem clm_sm (hM : qOk M) {way c s h : Nat} (hL : Lg M c) (hh : h < qH M) (hs : s < 3) : sm3 (clm M way c s h) := by
  have h1 := wv_le hM (c := c) (k := h) hh
  have h2 := th_tt (c := c) (h := h) (by have := hM.1; omega)
  have h3 := hL.2.2.2.2
  have h4 := hM.2.2.2.2.2.1 h s hh hs
  unfold clm
  split
  · exact ⟨by omega, by omega⟩
  · split
    · exact ⟨by omega, by omega⟩
    · exact ⟨by omega, by omega⟩
theorem tC_claim (hM : qOk M) {S : St} {m : Mm} {way c d s h : Nat} (hW : CW m 10 M) (hN : 1000000 ≤ N) (hw : mI m 97 2 = nI way) (hway : way < 4) (hL : Lg M c) (hd : d < 8) (hh : h < qH M) (hs : s < 3) : f_Ways_claim N S (cs c d) (nI s) (nI h) m = some (iz (clm M way c s h)) := by
  have hH := hM.1
  unfold f_Ways_claim clm
  rw [hw]
  by_cases w1 : way = 1
  · subst w1
    rw [if_pos (show nI 1 = 1 from rfl), t_thingsOf hL.1 hd (by omega), b1_s, if_pos rfl, iz_n, iz_neg]
    rfl
  · rw [if_neg (show ¬ nI way = 1 from fun q => w1 ((nI_eq (b := 1) (by omega) (by omega)).mp q)), if_neg w1]
    by_cases w2 : way = 2
    · subst w2
      rw [if_pos (show nI 2 = 2 from rfl), tW_value hM hW (by omega) hL.1 hd hh (by omega), b1_s, if_pos rfl, iz_n, iz_neg]
    · rw [if_neg (show ¬ nI way = 2 from fun q => w2 ((nI_eq (b := 2) (by omega) (by omega)).mp q)), if_neg w2, tW_worth hM hW hh hs, b1_s, iz_n]
theorem tC_wgift (hM : qOk M) (hE : qE M) {S : St} {m : Mm} {way c d s : Nat} (hW : CW m 10 M) (hN : 1000000 ≤ N) (hw : mI m 97 2 = nI way) (hway : way < 4) (hL : Lg M c) (hd : d < 8) (hs : s < 3) : f_Ways_gift N S (cs c d) (nI s) m = some (nI (gwy M way c s)) := by
  have hH := hM.1
  have hO := hM.2.2.1
  have loop : f_Ways_gift_L35 N S (cs c d) (nI s) m (fun (z8_4 : Int32) (z8_5 : Int32) => some z8_4) N (-1) 0 = some (nI ((amx (cb c) (clm M way c s) 3).getD 0)) := by
    obtain ⟨_, _, e⟩ := loopE (fun n (_ : Unit) j => f_Ways_gift_L35 N S (cs c d) (nI s) m (fun (z8_4 : Int32) (z8_5 : Int32) => some z8_4) n (zOpt (amx (cb c) (clm M way c s) j)) (nI j)) (fun _ _ => True) (qH M) (fun _ => some (zOpt (amx (cb c) (clm M way c s) (qH M)))) (fun n _ j hj _ => by
      show ∃ x', _ ∧ f_Ways_gift_L35 N S (cs c d) (nI s) m _ (n + 1) _ (nI j) = _
      refine ⟨(), trivial, ?_⟩
      rw [f_Ways_gift_L35, hW.1, if_neg (nI_ge hj (by omega)), t_isThere hL.1 hd (by omega), b1_s]
      cases e1 : cb c j
      · rw [if_pos (by simp [tf]), nI_1, amx_f e1]
      · rw [if_neg (by simp [tf]), nI_1, amx, if_pos e1]
        cases e2 : amx (cb c) (clm M way c s) j with
        | none =>
          rw [if_pos (show zOpt none = -1 from rfl)]
          rfl
        | some b =>
          obtain ⟨a1, a2, _, _⟩ := amx_some e2
          have hb : b < qH M := by omega
          show (if zOpt (some b) = -1 then _ else b1 (f_Ways_claim N S (cs c d) (nI s) (nI j) m) fun r5 => b1 (f_Ways_claim N S (cs c d) (nI s) (nI b) m) _) = _
          rw [if_neg (show ¬ zOpt (some b) = -1 from nI_m1 (by omega)), tC_claim hM hW hN hw hway hL hd hj hs, b1_s, tC_claim hM hW hN hw hway hL hd hb hs, b1_s]
          show _ = f_Ways_gift_L35 N S (cs c d) (nI s) m _ n (zOpt (if clm M way c s j ≤ clm M way c s b then some b else some j)) (nI (j + 1))
          by_cases q : clm M way c s j ≤ clm M way c s b
          · rw [if_pos q, if_pos ((iz_le (clm_sm hM hL hj hs) (clm_sm hM hL hb hs)).mpr q)]
          · rw [if_neg q, if_neg (fun w => q ((iz_le (clm_sm hM hL hj hs) (clm_sm hM hL hb hs)).mp w))]
            rfl) (fun n _ _ => by
      show f_Ways_gift_L35 N S (cs c d) (nI s) m _ (n + 1) _ (nI (qH M)) = _
      rw [f_Ways_gift_L35, hW.1, if_pos (nI_le (Nat.le_refl _) (by omega))]) (qH M) N () 0 (by omega) (by omega) trivial
    obtain ⟨b, eb, _, _⟩ := amx_ex hM hE hL (clm M way c s)
    have e' : f_Ways_gift_L35 N S (cs c d) (nI s) m (fun (z8_4 : Int32) (z8_5 : Int32) => some z8_4) N (-1) 0 = some (zOpt (amx (cb c) (clm M way c s) (qH M))) := e
    rw [e', ← amx_cb hM hL, eb]
    rfl
  unfold f_Ways_gift gwy
  simp only [jn]
  rw [hw, loop, hW.2.2.1]
  by_cases w3 : way = 3
  · subst w3
    rw [if_pos (show nI 3 = 3 from rfl), show (3 : Int32) = nI 3 from rfl, tW_mayGive hM hW hL.1 hd (by omega) (by omega), b1_s]
    have hm : may M c 3 (qO M) = decide (hl c < qO M) := by unfold may; rw [if_pos rfl]
    rw [hm]
    by_cases q : hl c < qO M
    · rw [if_neg (by simp [q, tf]), if_pos ⟨rfl, q⟩]
    · rw [if_pos (by simp [q, tf]), if_neg (fun w => q w.2)]
  · rw [if_neg (show ¬ nI way = 3 from fun q => w3 ((nI_eq (b := 3) (by omega) (by omega)).mp q)), if_neg (fun w => w3 w.1)]
end CWAYS
