/-! What the Sights answer. -/
theorem lz_add (a b : Int) : lz a + lz b = lz (a + b) := (Int64.ofInt_add a b).symm
theorem lz_mul (a b : Int) : lz a * lz b = lz (a * b) := (Int64.ofInt_mul a b).symm
theorem lz_n (n : Nat) : lz (n : Int) = lN n := Int64.ofInt_eq_ofNat
theorem nI_lz {n : Nat} (h : n < 2 ^ 31) : (nI n).toInt64 = lz (n : Int) := by rw [nI_l h, lz_n]
theorem Gd_putS {M : Mt} {S : St} {m : Mm} (hM : qOk M) (hT : TB S) {g k f c d p : Nat} (hg : g < 3) (hk : k < 4) (hf : S.1 (62 + 3 * (4 * g + k)) 0 = some f) (hL : Lg M c) (hp : plS M c d = some p) : Gd M S m (vY m f p (lz (vK M g k (qD M - d) c))) := by
  refine ⟨rfl, rfl, rfl, fun f' h' => ?_, fun g' b' hg' hb' h => ?_, fun g' k' hg' hk' h => ?_⟩
  · funext j
    show u2 m.2.2.2 f p _ f' j = _
    exact u2_a _ _ _ _ (fun e => h' _ (tS_mem g hg k hk) (by rw [e]; exact hf))
  · intro f' hf' c' p' hL' hp' hl'
    rw [vY_y, if_neg (fun e => ?_)]
    · exact h f' hf' c' p' hL' hp' hl'
    · have e1 := hT.2.1 _ (tE_mem g' hg' b' hb') _ (tS_mem g hg k hk) (hf'.trans (by rw [e.1]; exact hf.symm))
      omega
  · intro f' hf' c' d' p' hL' hd' hp' hl'
    have h0 := h f' hf' c' d' p' hL' hd' hp' hl'
    rw [vY_y]
    by_cases e : f' = f ∧ p' = p
    · obtain ⟨rfl, rfl⟩ := e
      have e1 := hT.2.1 _ (tS_mem g' hg' k' hk') _ (tS_mem g hg k hk) (hf'.trans hf.symm)
      have e2 : g' = g := by omega
      have e3 : k' = k := by omega
      subst e2 e3
      obtain ⟨q1, q2⟩ := plS_inj hM (hL.dm hM) (hL'.dm hM) hp hp'
      rw [q1, q2, if_pos ⟨rfl, rfl⟩]
      exact Or.inr (fun _ _ => rfl)
    · rw [if_neg e]
      exact h0
theorem plS_31 {M : Mt} (hM : qOk M) {c d : Nat} (hD : Dm M c) (hd : d ≤ 6) : ∀ v, plS M c d = some v → v < 2 ^ 31 := by
  intro v e
  have hH := hM.1
  obtain ⟨h1, h2⟩ := plS_b hM hd hD e
  have h3 := (mkF_b (qH M) (by omega) (qL M) (qL8 hM)).2.1
  have h5 : sta M (d + 1) * mks M ≤ 18564 * 7 * 8 := Nat.mul_le_mul h2 h3
  omega
/-- a sight is ready: its ends, their tables, its own -/
def Rdy (M : Mt) (S : St) (m : Mm) (g k : Nat) : Prop := S.1 (61 + 3 * (4 * g + k)) 4 = some (33 + 3 * (3 * g + kbk M k)) ∧ (∀ b', b' ≤ kbk M k → TE M S m g b') ∧ TS M S m g k
theorem kbk_lt {M : Mt} (hM : qOk M) (k : Nat) : kbk M k < 3 := by
  have := hM.2.2.2.1
  unfold kbk
  split <;> omega
theorem kho_le {M : Mt} (hM : qOk M) (k : Nat) : kho M k ≤ 3 := by
  have := hM.2.2.1
  unfold kho
  split <;> omega
theorem Rdy.gd {M : Mt} {S : St} {m m' : Mm} {g k : Nat} (hM : qOk M) (hg : g < 3) (hk : k < 4) (h : Rdy M S m g k) (hG : Gd M S m m') : Rdy M S m' g k := by
  have := kbk_lt hM k
  exact ⟨h.1, fun b' hb' => hG.2.2.2.2.1 g b' hg (by omega) (h.2.1 b' hb'), hG.2.2.2.2.2 g k hg hk h.2.2⟩
def RecS (S : St) (M : Mt) (rec : Nat → Int64 → Mm → Option (Int64 × Mm)) (q : Nat) : Prop := ∀ (g k c d : Nat) (m : Mm), g < 3 → k < 4 → d ≤ qD M → qD M - d < q → Ds M (kho M k) d c → Env S m M → Rdy M S m g k → ∃ m', rec (61 + 3 * (4 * g + k)) (cs c d) m = some (lz (vK M g k (qD M - d) c), m') ∧ Gd M S m m'
section CSIGHT
variable {N : Nat} {S : St} {M : Mt}
theorem tS_holdable {m : Mm} (he : Env S m M) {g k : Nat} (hg : g < 3) (hk : k < 4) : f_Sight_holdable N S (61 + 3 * (4 * g + k)) m = some (nI (kho M k)) := by
  unfold f_Sight_holdable kho
  rw [he.2.2.2.1.2 (4 * g + k) (by omega), he.1.2.2.1, show (4 * g + k) % 4 = k by omega]
  by_cases e : k = 2
  · subst e
    rw [if_pos (show nI 2 = 2 from rfl), if_pos rfl, nI_1]
  · rw [if_neg (show ¬ nI k = 2 from fun w => e ((nI_eq (b := 2) (by omega) (by omega)).mp w)), if_neg e]
theorem n3lt {j : Nat} (h : j < 4) : ¬ (3 : Int32) < nI j := nI_nlt (b := j) (a := 3) (by omega) (by omega)
theorem n3lt4 : (3 : Int32) < nI 4 := nI_lt (a := 3) (by omega) (by omega)
theorem vK_sm (hM : qOk M) (hE : qE M) {g k d c : Nat} (hd : d ≤ qD M) (h : Ds M (kho M k) d c) : sm6 (vK M g k (qD M - d) c) := vS_sm hM hE (by omega) (by rw [show qD M - (qD M - d) = d by omega]; exact h)
theorem tS_given (hM : qOk M) (hE : qE M) (hN : 100 ≤ N) {rec : Nat → Int64 → Mm → Option (Int64 × Mm)} {q : Nat} (hr : RecS S M rec q) {g k c d s : Nat} {m : Mm} (hg : g < 3) (hk : k < 4) (hd : d ≤ qD M) (hq : qD M - d < q) (hL : Lg M c) (ht : tt c < d) (hh : hl c ≤ kho M k) (hs : s < 3) (he : Env S m M) (hR : Rdy M S m g k) : ∃ m', fM_Sight_given N S rec (61 + 3 * (4 * g + k)) (cs c d) (nI s) m = some (lz ((gif M (kho M k) (vK M g k (qD M - d)) c s).getD 0), m') ∧ Gd M S m m' := by
  have hD := hM.2.1
  have hk3 := kho_le hM k
  have hds : ∀ to, to < 4 → may M c to (kho M k) = true → Ds M (kho M k) d (c + 8 ^ (4 * s + to)) := fun to h4 hm => Ds_give hL ht (by omega) hh hs h4 hm
  unfold fM_Sight_given
  obtain ⟨m', hG, e⟩ := loopE (fun n (a : Mm) j => f_Sight_given_L8 N S rec (61 + 3 * (4 * g + k)) (cs c d) (nI s) (fun (z7_4 : Int64) (z7_6 : Int32) (m7 : Mm) => some (z7_4, m7)) n (zL (mxo (fun to => may M c to (kho M k)) (fun to => vK M g k (qD M - d) (c + 8 ^ (4 * s + to))) j)) (nI j) a) (fun a _ => Gd M S m a) 4 (fun a => some (zL (mxo (fun to => may M c to (kho M k)) (fun to => vK M g k (qD M - d) (c + 8 ^ (4 * s + to))) 4), a)) (fun n a j hj hG => by
    show ∃ a', _ ∧ f_Sight_given_L8 N S rec (61 + 3 * (4 * g + k)) (cs c d) (nI s) _ (n + 1) _ (nI j) a = _
    have he' := hG.env he
    rw [f_Sight_given_L8, if_neg (n3lt hj), tS_holdable he' hg hk, b1_s, tW_mayGive hM he'.1 hL.1 (by omega) hj (by omega), b1_s]
    cases e1 : may M c j (kho M k)
    · refine ⟨a, hG, ?_⟩
      rw [if_pos (by simp [tf]), nI_1, mxo_f (p := fun to => may M c to (kho M k)) e1]
    · obtain ⟨m1, r1, r2⟩ := hr g k (c + 8 ^ (4 * s + j)) d a hg hk hd hq (hds j hj e1) he' (hR.gd hM hg hk hG)
      refine ⟨m1, hG.trans r2, ?_⟩
      rw [if_neg (by simp [tf]), t_with hs (by omega), b1_s, r1, b2_s, nI_1, zL_step (p := fun to => may M c to (kho M k)) (F := fun to => vK M g k (qD M - d) (c + 8 ^ (4 * s + to))) (fun i hi hp => vK_sm hM hE hd (hds i (by omega) hp)) e1]) (fun n a hG => by
    show f_Sight_given_L8 N S rec (61 + 3 * (4 * g + k)) (cs c d) (nI s) _ (n + 1) _ (nI 4) a = _
    rw [f_Sight_given_L8, if_pos n3lt4]) 4 N m 0 (by omega) (by omega) Gd.refl
  obtain ⟨x, hx⟩ := gif_some hM hE (ho := kho M k) (s := s) (F := vK M g k (qD M - d)) hL
  refine ⟨m', ?_, hG⟩
  rw [hx]
  have hx2 : mxo (fun to => may M c to (kho M k)) (fun to => vK M g k (qD M - d) (c + 8 ^ (4 * s + to))) 4 = some x := hx
  rw [hx2] at e
  exact e
theorem tS_after (hM : qOk M) (hE : qE M) (hN : 100 ≤ N) {rec : Nat → Int64 → Mm → Option (Int64 × Mm)} {q : Nat} (hr : RecS S M rec q) {g k c d a : Nat} {m : Mm} (hg : g < 3) (hk : k < 4) (hd : d < qD M) (hq : qD M - (d + 1) < q) (hc : Ds M (kho M k) d c) (ha : a < qA M d) (he : Env S m M) (hR : Rdy M S m g k) : ∃ m', fM_Sight_afterAlt N S rec (61 + 3 * (4 * g + k)) (cs c d) (nI d) (nI a) m = some (lz (aft M (kho M k) (vK M g k (qD M - (d + 1))) c d a), m') ∧ Gd M S m m' := by
  have hq8 := hM.2.2.2.2.2.2.2 d a hd ha
  unfold fM_Sight_afterAlt
  rw [tW_thing hM he.1 hd ha, b1_s, tW_passed hM he.1 hc.1.1 hd ha, b1_s]
  unfold qS aft
  by_cases e : qK M d a = 0
  · have hg3 := hq8.2.2.1 e
    obtain ⟨m1, r1, r2⟩ := tS_given hM hE hN hr hg hk (show d + 1 ≤ qD M by omega) hq hc.1 (by have := hc.2.1; omega) hc.2.2 hg3 he hR
    refine ⟨m1, ?_, r2⟩
    have ep : pas M c d a = c := by unfold pas; rw [if_neg (by omega)]
    rw [if_pos e, if_pos e, if_neg (nI_m1 (by omega)), ep, r1, b2_s]
  · obtain ⟨m1, r1, r2⟩ := hr g k (pas M c d a) (d + 1) m hg hk (by omega) hq (Ds_pas hM hc hd ha) he hR
    refine ⟨m1, ?_, r2⟩
    rw [if_neg e, if_neg e, if_pos rfl, r1, b2_s]
theorem aK_sm (hM : qOk M) (hE : qE M) {g k d c a : Nat} (hd : d < qD M) (h : Ds M (kho M k) d c) (ha : a < qA M d) : sm6 (aft M (kho M k) (vK M g k (qD M - (d + 1))) c d a) := by
  have := aft_sm hM hE (mean := decide (k = 1)) (ho := kho M k) (g := g) (b := kbk M k) (n := qD M - (d + 1)) (c := c) (a := a) (by omega) (by rw [show qD M - (qD M - (d + 1) + 1) = d by omega]; exact h) (by rw [show qD M - (qD M - (d + 1) + 1) = d by omega]; exact ha)
  rw [show qD M - (qD M - (d + 1) + 1) = d by omega] at this
  exact this
def BEY : Int64 := 9223372036854775807
theorem BEY_t : BEY.toInt = 9223372036854775807 := by decide
theorem lz_B {a : Int} (ha : sm6 a) : lz a < BEY := by
  rw [Int64.lt_iff_toInt_lt, lz_t ha, BEY_t]
  have := ha.2
  omega
def zM (f : Nat → Int) (j : Nat) : Int64 := if j = 0 then BEY else lz (minA j f)
theorem minA_P {P : Int → Prop} {f : Nat → Int} {n : Nat} (hn : 0 < n) (h : ∀ i, i < n → P (f i)) : P (minA n f) := by
  rcases (minA_is f n).2.2 with ⟨i, hi, e⟩ | ⟨e, _⟩
  · rw [e]; exact h i hi
  · omega
theorem zM_step {f : Nat → Int} {j : Nat} (h : ∀ i, i < j + 1 → sm6 (f i)) : (if lz (f j) < zM f j then lz (f j) else zM f j) = zM f (j + 1) := by
  unfold zM
  rw [if_neg (show ¬ j + 1 = 0 by omega)]
  by_cases e : j = 0
  · subst e
    rw [if_pos rfl, if_pos (lz_B (h 0 (by omega))), minA_1]
  · have hm : sm6 (minA j f) := minA_P (by omega) (fun i hi => h i (by omega))
    rw [if_neg e, minA_s]
    by_cases q : f j < minA j f
    · rw [if_pos q, if_pos ((lz_lt (h j (by omega)) hm).mpr q)]
    · rw [if_neg q, if_neg (fun w => q ((lz_lt (h j (by omega)) hm).mp w))]
theorem tS_weighed (hM : qOk M) (hE : qE M) (hN : 100 ≤ N) {rec : Nat → Int64 → Mm → Option (Int64 × Mm)} {q : Nat} (hr : RecS S M rec q) {g k c d : Nat} {m : Mm} (hg : g < 3) (hk : k < 4) (hd : d < qD M) (hq : qD M - (d + 1) < q) (hc : Ds M (kho M k) d c) (he : Env S m M) (hR : Rdy M S m g k) : ∃ m', fM_Sight_weighed N S rec (61 + 3 * (4 * g + k)) (cs c d) (nI d) m = some (lz (sumA (qA M d) (fun a => (qC M d a : Int) * aft M (kho M k) (vK M g k (qD M - (d + 1))) c d a)), m') ∧ Gd M S m m' := by
  have hA := (hM.2.2.2.2.2.2.1 d hd).2
  unfold fM_Sight_weighed
  obtain ⟨m', hG, e⟩ := loopE (fun n (a : Mm) j => f_Sight_weighed_L6 N S rec (61 + 3 * (4 * g + k)) (cs c d) (nI d) (fun (z5_4 : Int64) (z5_6 : Int32) (m5 : Mm) => some (z5_4, m5)) n (lz (sumA j (fun a => (qC M d a : Int) * aft M (kho M k) (vK M g k (qD M - (d + 1))) c d a))) (nI j) a) (fun a _ => Gd M S m a) (qA M d) (fun a => some (lz (sumA (qA M d) (fun a => (qC M d a : Int) * aft M (kho M k) (vK M g k (qD M - (d + 1))) c d a)), a)) (fun n a j hj hG => by
    show ∃ a', _ ∧ f_Sight_weighed_L6 N S rec (61 + 3 * (4 * g + k)) (cs c d) (nI d) _ (n + 1) _ (nI j) a = _
    have he' := hG.env he
    have hC := (hM.2.2.2.2.2.2.2 d j hd hj).1
    obtain ⟨m1, r1, r2⟩ := tS_after hM hE hN hr hg hk hd hq hc hj he' (hR.gd hM hg hk hG)
    refine ⟨m1, hG.trans r2, ?_⟩
    rw [f_Sight_weighed_L6, tW_alts hM he'.1 hd, b1_s, if_neg (nI_ge hj (by omega)), tW_chance hM he'.1 hd hj, b1_s, r1, b2_s, nI_1, nI_lz (by omega), lz_mul, lz_add, sumA_s]) (fun n a hG => by
    show f_Sight_weighed_L6 N S rec (61 + 3 * (4 * g + k)) (cs c d) (nI d) _ (n + 1) _ (nI (qA M d)) a = _
    rw [f_Sight_weighed_L6, tW_alts hM (hG.env he).1 hd, b1_s, if_pos (nI_le (Nat.le_refl _) (by omega))]) (qA M d) N m 0 (by omega) (by omega) Gd.refl
  exact ⟨m', e, hG⟩
theorem tS_least (hM : qOk M) (hE : qE M) (hN : 100 ≤ N) {rec : Nat → Int64 → Mm → Option (Int64 × Mm)} {q : Nat} (hr : RecS S M rec q) {g k c d : Nat} {m : Mm} (hg : g < 3) (hk : k < 4) (hd : d < qD M) (hq : qD M - (d + 1) < q) (hc : Ds M (kho M k) d c) (he : Env S m M) (hR : Rdy M S m g k) : ∃ m', fM_Sight_least N S rec (61 + 3 * (4 * g + k)) (cs c d) (nI d) m = some (lz (minA (qA M d) (fun a => aft M (kho M k) (vK M g k (qD M - (d + 1))) c d a)), m') ∧ Gd M S m m' := by
  have hA := (hM.2.2.2.2.2.2.1 d hd)
  unfold fM_Sight_least
  obtain ⟨m', hG, e⟩ := loopE (fun n (a : Mm) j => f_Sight_least_L8 N S rec (61 + 3 * (4 * g + k)) (cs c d) (nI d) (fun (z4_4 : Int64) (z4_6 : Int32) (m4 : Mm) => some (z4_4, m4)) n (zM (fun a => aft M (kho M k) (vK M g k (qD M - (d + 1))) c d a) j) (nI j) a) (fun a _ => Gd M S m a) (qA M d) (fun a => some (zM (fun a => aft M (kho M k) (vK M g k (qD M - (d + 1))) c d a) (qA M d), a)) (fun n a j hj hG => by
    show ∃ a', _ ∧ f_Sight_least_L8 N S rec (61 + 3 * (4 * g + k)) (cs c d) (nI d) _ (n + 1) _ (nI j) a = _
    have he' := hG.env he
    obtain ⟨m1, r1, r2⟩ := tS_after hM hE hN hr hg hk hd hq hc hj he' (hR.gd hM hg hk hG)
    refine ⟨m1, hG.trans r2, ?_⟩
    rw [f_Sight_least_L8, tW_alts hM he'.1 hd, b1_s, if_neg (nI_ge hj (by omega)), r1, b2_s, nI_1, zM_step (f := fun a => aft M (kho M k) (vK M g k (qD M - (d + 1))) c d a) (fun i hi => aK_sm hM hE hd hc (by omega))]) (fun n a hG => by
    show f_Sight_least_L8 N S rec (61 + 3 * (4 * g + k)) (cs c d) (nI d) _ (n + 1) _ (nI (qA M d)) a = _
    rw [f_Sight_least_L8, tW_alts hM (hG.env he).1 hd, b1_s, if_pos (nI_le (Nat.le_refl _) (by omega))]) (qA M d) N m 0 (by omega) (by omega) Gd.refl
  refine ⟨m', ?_, hG⟩
  have : zM (fun a => aft M (kho M k) (vK M g k (qD M - (d + 1))) c d a) (qA M d) = lz (minA (qA M d) (fun a => aft M (kho M k) (vK M g k (qD M - (d + 1))) c d a)) := by
    unfold zM
    rw [if_neg (by omega)]
  rw [this] at e
  exact e
theorem vK_s {g k d c : Nat} (hd : d < qD M) : vK M g k (qD M - d) c = if k = 1 then sumA (qA M d) (fun a => (qC M d a : Int) * aft M (kho M k) (vK M g k (qD M - (d + 1))) c d a) else minA (qA M d) (fun a => aft M (kho M k) (vK M g k (qD M - (d + 1))) c d a) := by
  obtain ⟨n, hn⟩ : ∃ n, qD M - d = n + 1 := ⟨qD M - d - 1, by omega⟩
  have h1 : qD M - (n + 1) = d := by omega
  have h2 : qD M - (d + 1) = n := by omega
  unfold vK
  rw [hn, vS, h1, h2]
  by_cases e : k = 1
  · simp [e, vK]
  · simp [e, vK]
theorem tS_rec (hM : qOk M) (hE : qE M) (hN : 100 ≤ N) : ∀ q, RecS S M (fR_Sight_worth N S q) q
  | 0, _, _, _, _, _, _, _, _, hq, _, _, _ => by omega
  | q + 1, g, k, c, d, m, hg, hk, hd, hq, hc, he, hR => by
    show ∃ m', fM_Sight_worth N S (fR_Sight_worth N S q) (61 + 3 * (4 * g + k)) (cs c d) m = _ ∧ _
    have hD := hM.2.1
    have hk3 := kho_le hM k
    unfold fM_Sight_worth
    rw [t_dayOf hc.1.1 (by omega), b1_s, he.1.2.1]
    by_cases hdd : d < qD M
    · obtain ⟨f, hf, _, hfl⟩ := he.2.2.2.2.1 (62 + 3 * (4 * g + k)) (tS_mem g hg k hk)
      have hf' : S.1 (61 + 3 * (4 * g + k) + 1) 0 = some f := by rw [show 61 + 3 * (4 * g + k) + 1 = 62 + 3 * (4 * g + k) by omega]; exact hf
      have hpl := plS_31 hM (hc.1.dm hM) (show d ≤ 6 by omega)
      rw [if_pos (nI_lt hdd (by omega)), t_place hM he.2.1 he.2.2.1 hc.1.1 hd hc.1.2.2.2.2, b1_s, t_at hf' hfl hpl, b1_s, he.2.2.2.1.2 (4 * g + k) (by omega), show (4 * g + k) % 4 = k by omega]
      have hv : ∃ m1, (∀ (J : Int64 → Mm → Option (Int64 × Mm)), (if nI k = 1 then b2 (fM_Sight_weighed N S (fR_Sight_worth N S q) (61 + 3 * (4 * g + k)) (cs c d) (nI d) m) fun r11 m11 => J r11 m11 else b2 (fM_Sight_least N S (fR_Sight_worth N S q) (61 + 3 * (4 * g + k)) (cs c d) (nI d) m) fun r10 m10 => J r10 m10) = J (lz (vK M g k (qD M - d) c)) m1) ∧ Gd M S m m1 := by
        rw [vK_s hdd]
        by_cases e : k = 1
        · obtain ⟨m1, e1, e2⟩ := tS_weighed hM hE hN (tS_rec hM hE hN q) hg hk hdd (by omega) hc he hR
          exact ⟨m1, fun J => by rw [if_pos (show nI k = 1 by rw [e]; rfl), e1, b2_s, if_pos e], e2⟩
        · obtain ⟨m1, e1, e2⟩ := tS_least hM hE hN (tS_rec hM hE hN q) hg hk hdd (by omega) hc he hR
          exact ⟨m1, fun J => by rw [if_neg (show ¬ nI k = 1 from fun w => e ((nI_eq (b := 1) (by omega) (by omega)).mp w)), e1, b2_s, if_neg e], e2⟩
      obtain ⟨m1, e1, e2⟩ := hv
      simp only [jn]
      rw [e1]
      rcases opt_or (plS M c d) with ep | ⟨p, ep⟩
      · refine ⟨m1, ?_, e2⟩
        rw [show tAt m (S.2.2.1 f) f (plS M c d) = UNK by rw [ep]; rfl, if_pos (show UNK = -9223372036854775808 from rfl), t_put hf' hfl hpl, b3_s, show ∀ z, tPt m1 (S.2.2.1 f) f (plS M c d) z = m1 by intro z; rw [ep]; rfl]
      · by_cases hp : p < S.2.2.1 f
        · rw [show tAt m (S.2.2.1 f) f (plS M c d) = mYy m f p by rw [ep]; exact if_pos hp]
          rcases hR.2.2 f hf c d p hc.1 hdd ep hp with h | h
          · refine ⟨vY m1 f p (lz (vK M g k (qD M - d) c)), ?_, e2.trans (Gd_putS hM he.2.2.2.2 hg hk hf hc.1 ep)⟩
            rw [h, if_pos (show UNK = -9223372036854775808 from rfl), t_put hf' hfl hpl, b3_s, show ∀ z, tPt m1 (S.2.2.1 f) f (plS M c d) z = vY m1 f p z by intro z; rw [ep]; exact if_pos hp]
          · refine ⟨m, ?_, Gd.refl⟩
            rw [h hc.2.1 hc.2.2, if_neg (show ¬ lz (vK M g k (qD M - d) c) = -9223372036854775808 from lz_U (vK_sm hM hE hd hc))]
        · refine ⟨m1, ?_, e2⟩
          rw [show tAt m (S.2.2.1 f) f (plS M c d) = UNK by rw [ep]; exact if_neg hp, if_pos (show UNK = -9223372036854775808 from rfl), t_put hf' hfl hpl, b3_s, show ∀ z, tPt m1 (S.2.2.1 f) f (plS M c d) z = m1 by intro z; rw [ep]; exact if_neg hp]
    · have ed : d = qD M := by omega
      obtain ⟨m1, e1, e2⟩ := tE_value hM hE hN hg (kbk_lt hM k) (by have := hc.2.2; omega) hc.1 (show d < 8 by omega) he hR.2.1
      refine ⟨m1, ?_, e2⟩
      rw [if_neg (nI_nlt (by omega) (by omega)), hR.1, b1_s, e1, b2_s]
      unfold vK
      rw [show qD M - d = 0 by omega, vS]
theorem tS_worth (hM : qOk M) (hE : qE M) (hN : 100 ≤ N) {g k c d : Nat} {m : Mm} (hg : g < 3) (hk : k < 4) (hd : d ≤ qD M) (hc : Ds M (kho M k) d c) (he : Env S m M) (hR : Rdy M S m g k) : ∃ m', f_Sight_worth N S (61 + 3 * (4 * g + k)) (cs c d) m = some (lz (vK M g k (qD M - d) c), m') ∧ Gd M S m m' :=
  tS_rec hM hE hN 8 g k c d m hg hk hd (by have := hM.2.1; omega) hc he hR
end CSIGHT
