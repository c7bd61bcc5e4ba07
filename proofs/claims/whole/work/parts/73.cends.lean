/-! The end's values, by tables: what the Ends answer. -/
def UNK : Int64 := -9223372036854775808
def lz (v : Int) : Int64 := Int64.ofInt v
def sm6 (v : Int) : Prop := -1152921504606846976 ≤ v ∧ v ≤ 1152921504606846976
theorem lz_t {v : Int} (h : sm6 v) : (lz v).toInt = v := Int64.toInt_ofInt_of_le (by have := h.1; omega) (by have := h.2; omega)
theorem lz_lt {a b : Int} (ha : sm6 a) (hb : sm6 b) : lz a < lz b ↔ a < b := by rw [Int64.lt_iff_toInt_lt, lz_t ha, lz_t hb]
theorem lz_le {a b : Int} (ha : sm6 a) (hb : sm6 b) : lz a ≤ lz b ↔ a ≤ b := by rw [Int64.le_iff_toInt_le, lz_t ha, lz_t hb]
theorem lz_eq {a b : Int} (ha : sm6 a) (hb : sm6 b) : lz a = lz b ↔ a = b := by rw [← Int64.toInt_inj, lz_t ha, lz_t hb]
theorem UNK_t : UNK.toInt = -9223372036854775808 := by decide
theorem lz_U {a : Int} (ha : sm6 a) : ¬ lz a = UNK := by
  rw [← Int64.toInt_inj, lz_t ha, UNK_t]
  have := ha.1
  omega
theorem U_lt {a : Int} (ha : sm6 a) : UNK < lz a := by
  rw [Int64.lt_iff_toInt_lt, lz_t ha, UNK_t]
  have := ha.1
  omega
theorem lz_nU {a : Int} (ha : sm6 a) : ¬ lz a < UNK := by
  rw [Int64.lt_iff_toInt_lt, lz_t ha, UNK_t]
  have := ha.1
  omega
theorem lz_32 (x : Int32) : x.toInt64 = lz x.toInt := by
  apply Int64.toInt_inj.mp
  have h1 := x.toInt_lt
  have h2 := x.le_toInt
  rw [Int32.toInt_toInt64, lz_t ⟨by omega, by omega⟩]
theorem sm6_s {v : Int} (h : -6 ≤ v ∧ v ≤ 3000) : sm6 v := ⟨by omega, by omega⟩
def zL (o : Option Int) : Int64 := match o with
  | none => UNK
  | some x => lz x
theorem zL_step {p : Nat → Bool} {F : Nat → Int} {n : Nat} (h : ∀ i, i < n + 1 → p i = true → sm6 (F i)) (hp : p n = true) : (if lz (F n) < zL (mxo p F n) then zL (mxo p F n) else lz (F n)) = zL (mxo p F (n + 1)) := by
  rw [mxo, if_pos hp]
  cases e : mxo p F n with
  | none => exact if_neg (lz_nU (h n (by omega) hp))
  | some y =>
    have hy : sm6 y := mxo_bd (P := sm6) (fun i hi => h i (by omega)) e
    show (if lz (F n) < lz y then lz y else lz (F n)) = lz (if F n < y then y else F n)
    by_cases q : F n < y
    · rw [if_pos q, if_pos ((lz_lt (h n (by omega) hp) hy).mpr q)]
    · rw [if_neg q, if_neg (fun w => q ((lz_lt (h n (by omega) hp) hy).mp w))]
theorem mxo_f {p : Nat → Bool} {F : Nat → Int} {n : Nat} (hp : p n = false) : mxo p F (n + 1) = mxo p F n := by rw [mxo, hp]; rfl
theorem loopE {α β : Type} (W : Nat → α → Nat → β) (I : α → Nat → Prop) (e : Nat) (K : α → β) (step : ∀ n a j, j < e → I a j → ∃ a', I a' (j + 1) ∧ W (n + 1) a j = W n a' (j + 1)) (stop : ∀ n a, I a e → W (n + 1) a e = K a) : ∀ k n a j, j + k = e → k < n → I a j → ∃ a', I a' e ∧ W n a j = K a'
  | 0, n, a, j, hj, hn, hI => by
    obtain ⟨n, rfl⟩ : ∃ q, n = q + 1 := ⟨n - 1, by omega⟩
    have : j = e := by omega
    subst this
    exact ⟨a, hI, stop n a hI⟩
  | k + 1, n, a, j, hj, hn, hI => by
    obtain ⟨n, rfl⟩ : ∃ q, n = q + 1 := ⟨n - 1, by omega⟩
    obtain ⟨a', hI', e1⟩ := step n a j (by omega) hI
    rw [e1]
    exact loopE W I e K step stop k n a' _ (by omega) (by omega) hI'
theorem loopP {α β : Type} (W : Nat → α → Nat → β) (I : α → Nat → Prop) (Q : β → Prop) (e : Nat) (step : ∀ n a j, j < e → I a j → Q (W (n + 1) a j) ∨ ∃ a', I a' (j + 1) ∧ W (n + 1) a j = W n a' (j + 1)) (stop : ∀ n a, I a e → Q (W (n + 1) a e)) : ∀ k n a j, j + k = e → k < n → I a j → Q (W n a j)
  | 0, n, a, j, hj, hn, hI => by
    obtain ⟨n, rfl⟩ : ∃ q, n = q + 1 := ⟨n - 1, by omega⟩
    have : j = e := by omega
    subst this
    exact stop n a hI
  | k + 1, n, a, j, hj, hn, hI => by
    obtain ⟨n, rfl⟩ : ∃ q, n = q + 1 := ⟨n - 1, by omega⟩
    rcases step n a j (by omega) hI with h | ⟨a', hI', e1⟩
    · exact h
    · rw [e1]
      exact loopP W I Q e step stop k n a' _ (by omega) (by omega) hI'
/-! sights' values, as numbers -/
/-- what comes of an alt, the thing given as is best: by F, of what comes after -/
def gif (M : Mt) (ho : Nat) (F : Nat → Int) (c s : Nat) : Option Int := mxo (fun to => may M c to ho) (fun to => F (c + 8 ^ (4 * s + to))) 4
def aft (M : Mt) (ho : Nat) (F : Nat → Int) (c d a : Nat) : Int := if qK M d a = 0 then (gif M ho F c (qG M d a)).getD 0 else F (pas M c d a)
def sumA (n : Nat) (f : Nat → Int) : Int := fo (fun x a => x + f a) 0 0 n
def minA (n : Nat) (f : Nat → Int) : Int := fo (fun x a => if f a < x then f a else x) (f 0) 0 n
noncomputable def vS (M : Mt) (mean : Bool) (ho g b : Nat) : Nat → Nat → Int
  | 0, c => gE M g b c
  | n + 1, c => if mean then sumA (qA M (qD M - (n + 1))) (fun a => (qC M (qD M - (n + 1)) a : Int) * aft M ho (vS M mean ho g b n) c (qD M - (n + 1)) a) else minA (qA M (qD M - (n + 1))) (fun a => aft M ho (vS M mean ho g b n) c (qD M - (n + 1)) a)
def kho (M : Mt) (k : Nat) : Nat := if k = 2 then qO M + 1 else qO M
def kbk (M : Mt) (k : Nat) : Nat := if k = 3 then qB M + 1 else qB M
noncomputable def vK (M : Mt) (g k n c : Nat) : Int := vS M (decide (k = 1)) (kho M k) g (kbk M k) n c
/-! tables -/
def TE (M : Mt) (S : St) (m : Mm) (g b : Nat) : Prop := ∀ f, S.1 (34 + 3 * (3 * g + b)) 0 = some f → ∀ c p, Lg M c → plE M c = some p → p < S.2.2.1 f → mYy m f p = UNK ∨ mYy m f p = lz (gE M g b c)
def TS (M : Mt) (S : St) (m : Mm) (g k : Nat) : Prop := ∀ f, S.1 (62 + 3 * (4 * g + k)) 0 = some f → ∀ c d p, Lg M c → d < qD M → plS M c d = some p → p < S.2.2.1 f → mYy m f p = UNK ∨ (tt c ≤ d → hl c ≤ kho M k → mYy m f p = lz (vK M g k (qD M - d) c))
/-- how the tables lie -/
def TB (S : St) : Prop := (∀ t ∈ tKl, ∃ f, S.1 t 0 = some f ∧ (f = t + 1 ∨ 101 ≤ f) ∧ S.2.2.1 f < 2 ^ 31) ∧ (∀ t ∈ tKl, ∀ t' ∈ tKl, S.1 t 0 = S.1 t' 0 → t = t') ∧ ∀ i, i < 9 → S.1 (33 + 3 * i) 4 = if i % 3 = 0 then none else some (33 + 3 * (i - 1))
def FX (m : Mm) : Prop := (∀ i, i < 9 → mI m (33 + 3 * i) 3 = nI (i / 3)) ∧ ∀ i, i < 12 → mI m (61 + 3 * i) 3 = nI (i % 4)
def Env (S : St) (m : Mm) (M : Mt) : Prop := CW m 10 M ∧ RKm m ∧ RLm m M ∧ FX m ∧ TB S
/-- only tables' rows have changed, and what was right is right -/
def Gd (M : Mt) (S : St) (m m' : Mm) : Prop := m'.1 = m.1 ∧ m'.2.1 = m.2.1 ∧ m'.2.2.1 = m.2.2.1 ∧ (∀ f, (∀ t ∈ tKl, S.1 t 0 ≠ some f) → m'.2.2.2 f = m.2.2.2 f) ∧ (∀ g b, g < 3 → b < 3 → TE M S m g b → TE M S m' g b) ∧ ∀ g k, g < 3 → k < 4 → TS M S m g k → TS M S m' g k
theorem Gd.refl {M : Mt} {S : St} {m : Mm} : Gd M S m m := ⟨rfl, rfl, rfl, fun _ _ => rfl, fun _ _ _ _ h => h, fun _ _ _ _ h => h⟩
theorem Gd.trans {M : Mt} {S : St} {m m1 m2 : Mm} (h : Gd M S m m1) (h' : Gd M S m1 m2) : Gd M S m m2 := ⟨h'.1.trans h.1, h'.2.1.trans h.2.1, h'.2.2.1.trans h.2.2.1, fun f hf => (h'.2.2.2.1 f hf).trans (h.2.2.2.1 f hf), fun g b hg hb q => h'.2.2.2.2.1 g b hg hb (h.2.2.2.2.1 g b hg hb q), fun g k hg hk q => h'.2.2.2.2.2 g k hg hk (h.2.2.2.2.2 g k hg hk q)⟩
theorem Env_t {S : St} {m m' : Mm} {M : Mt} (h1 : m'.1 = m.1) (h3 : m'.2.2.1 = m.2.2.1) (h : Env S m M) : Env S m' M := by
  have e1 : ∀ a k, mI m' a k = mI m a k := fun a k => by unfold mI; rw [h1]
  have e2 : ∀ a k, mX m' a k = mX m a k := fun a k => by unfold mX; rw [h3]
  unfold Env CW RKm RLm FX at *
  simp only [e1, e2]
  exact h
theorem Gd.env {S : St} {m m' : Mm} {M : Mt} (h : Gd M S m m') (he : Env S m M) : Env S m' M := Env_t h.1 h.2.2.1 he
theorem tE_mem : ∀ g, g < 3 → ∀ b, b < 3 → 34 + 3 * (3 * g + b) ∈ tKl := by decide
theorem tS_mem : ∀ g, g < 3 → ∀ k, k < 4 → 62 + 3 * (4 * g + k) ∈ tKl := by decide
theorem vY_y {m : Mm} {f p : Nat} {z : Int64} {f' p' : Nat} : mYy (vY m f p z) f' p' = if f' = f ∧ p' = p then z else mYy m f' p' := rfl
theorem Gd_putE {M : Mt} {S : St} {m : Mm} (hM : qOk M) (hT : TB S) {g b f c p : Nat} (hg : g < 3) (hb : b < 3) (hf : S.1 (34 + 3 * (3 * g + b)) 0 = some f) (hL : Lg M c) (hp : plE M c = some p) : Gd M S m (vY m f p (lz (gE M g b c))) := by
  refine ⟨rfl, rfl, rfl, fun f' h' => ?_, fun g' b' hg' hb' h => ?_, fun g' k' hg' hk' h => ?_⟩
  · funext j
    show u2 m.2.2.2 f p _ f' j = _
    exact u2_a _ _ _ _ (fun e => h' _ (tE_mem g hg b hb) (by rw [e]; exact hf))
  · intro f' hf' c' p' hL' hp' hl'
    have h0 := h f' hf' c' p' hL' hp' hl'
    rw [vY_y]
    by_cases e : f' = f ∧ p' = p
    · obtain ⟨rfl, rfl⟩ := e
      have e1 := hT.2.1 _ (tE_mem g' hg' b' hb') _ (tE_mem g hg b hb) (hf'.trans hf.symm)
      have e2 : g' = g := by omega
      have e3 : b' = b := by omega
      subst e2 e3
      rw [plE_inj hM (hL.dm hM) (hL'.dm hM) hp hp', if_pos ⟨rfl, rfl⟩]
      exact Or.inr rfl
    · rw [if_neg e]
      exact h0
  · intro f' hf' c' d' p' hL' hd' hp' hl'
    rw [vY_y, if_neg (fun e => ?_)]
    · exact h f' hf' c' d' p' hL' hd' hp' hl'
    · have e1 := hT.2.1 _ (tS_mem g' hg' k' hk') _ (tE_mem g hg b hb) (hf'.trans (by rw [e.1]; exact hf.symm))
      omega
theorem plE_31 {M : Mt} (hM : qOk M) {c : Nat} (hL : Lg M c) : ∀ v, plE M c = some v → v < 2 ^ 31 := by
  intro v e
  have hH := hM.1
  obtain ⟨x, hx, ex⟩ := Option.map_eq_some_iff.mp e
  have h1 := cpo_lt (lim_le M _) hL.2.2.2.2 hx
  have h2 := szF_v (lim M (qD M)) (by have := lim_le M (qD M); omega)
  have h3 := (mkF_b (qH M) (by omega) (qL M) (qL8 hM)).2.1
  have h4 := lmF_8 (qH M) (by omega) (qL M) (qL8 hM) _ (dg_lt c 12)
  have h5 : x * mks M ≤ 18564 * 8 := Nat.mul_le_mul (by omega) h3
  have h6 : lmk M c < 8 := h4
  omega
section CENDS
variable {N : Nat} {S : St} {M : Mt}
theorem t_firstHeld2 {c d : Nat} (hN : 4 ≤ N) (hc : c < 8 ^ 13) (hd : d < 8) : f_State_firstHeld N (cs c d) = some (if 0 < hl c then nI (hs c) else -1) := by
  rw [t_firstHeld hN hc hd]
  unfold hs hl
  by_cases h0 : 0 < am c 0 3
  · rw [if_pos h0, if_pos h0, if_pos (by omega)]; rfl
  · rw [if_neg h0, if_neg h0]
    by_cases h1 : 0 < am c 1 3
    · rw [if_pos h1, if_pos h1, if_pos (by omega)]; rfl
    · rw [if_neg h1, if_neg h1]
      by_cases h2 : 0 < am c 2 3
      · rw [if_pos h2, if_pos (by omega)]; rfl
      · rw [if_neg h2, if_neg (by omega)]
theorem gE_h (hM : qOk M) (hE : qE M) {g b c : Nat} (hL : Lg M c) (h : 0 < hl c) : ∃ x, mxo (cb c) (fun to => gE M g b (hnd c to)) (qH M) = some x ∧ x = gE M g b c := by
  have hH := hM.1
  cases e : mxo (cb c) (fun to => gE M g b (hnd c to)) (qH M) with
  | none =>
    obtain ⟨to, _, h1, h2⟩ := Lg_one hE hM hL
    rw [mxo_none e to h1] at h2
    cases h2
  | some x =>
    refine ⟨x, rfl, isG_u ?_ (gE_is hM hE hL)⟩
    have := isG_U (A := fun to => EV M g b (hnd c to)) (fun i hi hp => gE_is hM hE (Lg_mvd hL (hs_lt c) (by omega) (by omega) (hs_pos h) hp)) (mxo_isG e)
    refine isG_c (fun w => ?_) this
    rw [EV_h hL.2.2.2.2 h]
    constructor
    · intro ⟨i, hi, hp, hw⟩
      exact ⟨i, by omega, hp, hw⟩
    · intro ⟨i, hi, hp, hw⟩
      exact ⟨i, hL.2.1 i hi hp, hp, hw⟩
/-- what is asked of the method that calls itself -/
def RecE (N : Nat) (S : St) (M : Mt) (rec : Nat → Int64 → Mm → Option (Int64 × Mm)) (q : Nat) : Prop := ∀ (g b c d : Nat) (m : Mm), g < 3 → b < 3 → hl c + b < q → Lg M c → d < 8 → Env S m M → (∀ b', b' ≤ b → TE M S m g b') → ∃ m', rec (33 + 3 * (3 * g + b)) (cs c d) m = some (lz (gE M g b c), m') ∧ Gd M S m m'
theorem tE_handed (hM : qOk M) (hE : qE M) (hN : 100 ≤ N) {rec : Nat → Int64 → Mm → Option (Int64 × Mm)} {q : Nat} (hr : RecE N S M rec q) {g b c d : Nat} {m : Mm} (hg : g < 3) (hb : b < 3) (hq : hl c + b < q + 1) (hL : Lg M c) (hd : d < 8) (he : Env S m M) (ht : ∀ b', b' ≤ b → TE M S m g b') (hh : 0 < hl c) : ∃ m', fM_Ends_bestHandedOut N S rec (33 + 3 * (3 * g + b)) (cs c d) (nI (hs c)) m = some (lz (gE M g b c), m') ∧ Gd M S m m' := by
  have hH := hM.1
  have h3 := hs_lt c
  have h0 := hs_pos hh
  have hsm : ∀ i, i < qH M → cb c i = true → sm6 (gE M g b (hnd c i)) := fun i hi hp => sm6_s (gE_b hM hE (Lg_mvd hL h3 (by omega) (by omega) h0 hp))
  unfold fM_Ends_bestHandedOut
  rw [show (3 : Int32) = nI 3 from rfl, t_one h3 (by omega), b1_s, cs_sub h0]
  obtain ⟨m', hG, e⟩ := loopE (fun n (a : Mm) j => f_Ends_bestHandedOut_L17 N S rec (33 + 3 * (3 * g + b)) (cs c d) (nI (hs c)) (cs (c - 8 ^ (4 * hs c + 3)) d) (fun (z7_6 : Int64) (z7_8 : Int32) (m7 : Mm) => some (z7_6, m7)) n (zL (mxo (cb c) (fun to => gE M g b (hnd c to)) j)) (nI j) a) (fun a _ => Gd M S m a) (qH M) (fun a => some (zL (mxo (cb c) (fun to => gE M g b (hnd c to)) (qH M)), a)) (fun n a j hj hG => by
    show ∃ a', _ ∧ f_Ends_bestHandedOut_L17 N S rec (33 + 3 * (3 * g + b)) (cs c d) (nI (hs c)) (cs (c - 8 ^ (4 * hs c + 3)) d) _ (n + 1) _ (nI j) a = _
    have he' := hG.env he
    rw [f_Ends_bestHandedOut_L17, he'.1.1, if_neg (nI_ge hj (by omega)), t_isThere hL.1 hd (by omega), b1_s]
    cases e1 : cb c j
    · refine ⟨a, hG, ?_⟩
      rw [if_pos (by simp [tf]), nI_1, mxo_f e1]
    · have hL' := Lg_mvd hL h3 (f := 3) (by omega) (show j < 3 by omega) h0 e1
      have e2 := hl_hnd hL.2.2.2.2 (show j < 3 by omega) hh
      obtain ⟨m1, r1, r2⟩ := hr g b (hnd c j) d a hg hb (by omega) hL' hd he' (fun b' hb' => hG.2.2.2.2.1 g b' hg (by omega) (ht b' hb'))
      refine ⟨m1, hG.trans r2, ?_⟩
      rw [if_neg (by simp [tf]), t_with h3 (by omega), b1_s, show c - 8 ^ (4 * hs c + 3) + 8 ^ (4 * hs c + j) = hnd c j from rfl, r1, b2_s, nI_1, zL_step (F := fun to => gE M g b (hnd c to)) (fun i hi => hsm i (by omega)) e1]) (fun n a hG => by
    show f_Ends_bestHandedOut_L17 N S rec (33 + 3 * (3 * g + b)) (cs c d) (nI (hs c)) (cs (c - 8 ^ (4 * hs c + 3)) d) _ (n + 1) _ (nI (qH M)) a = _
    rw [f_Ends_bestHandedOut_L17, (hG.env he).1.1, if_pos (nI_le (Nat.le_refl _) (by omega))]) (qH M) N m 0 (by omega) (by omega) Gd.refl
  obtain ⟨x, ex, ev⟩ := gE_h hM hE (g := g) (b := b) hL hh
  refine ⟨m', ?_, hG⟩
  rw [ex, ev] at e
  exact e
theorem tE_moved (hM : qOk M) (hE : qE M) (hN : 100 ≤ N) {rec : Nat → Int64 → Mm → Option (Int64 × Mm)} {q : Nat} (hr : RecE N S M rec q) {g b c d s f : Nat} {m : Mm} (x0 : Nat) (hg : g < 3) (hb : b < 3) (hq : b < q) (hL : Lg M c) (hd : d < 8) (he : Env S m M) (ht : ∀ b', b' ≤ b → TE M S m g b') (hh : hl c = 0) (hs : s < 3) (hf : f < 3) (h0 : 0 < am c s f) : ∃ m', fM_Ends_bestMoved N S rec x0 (cs c d) (nI s) (nI f) (33 + 3 * (3 * g + b)) m = some (zL (mxo (fun to => decide (to ≠ f) && cb c to) (fun to => gE M g b (mvd c s f to)) (qH M)), m') ∧ Gd M S m m' := by
  have hH := hM.1
  have hsm : ∀ i, i < qH M → (decide (i ≠ f) && cb c i) = true → sm6 (gE M g b (mvd c s f i)) := fun i hi hp => sm6_s (gE_b hM hE (Lg_mvd hL hs (by omega) (by omega) h0 (by simp at hp; exact hp.2)))
  unfold fM_Ends_bestMoved
  rw [t_one hs (by omega), b1_s, cs_sub h0]
  obtain ⟨m', hG, e⟩ := loopE (fun n (a : Mm) j => f_Ends_bestMoved_L18 N S rec x0 (cs c d) (nI s) (nI f) (33 + 3 * (3 * g + b)) (cs (c - 8 ^ (4 * s + f)) d) (fun (z8_8 : Int64) (z8_10 : Int32) (m8 : Mm) => some (z8_8, m8)) n (zL (mxo (fun to => decide (to ≠ f) && cb c to) (fun to => gE M g b (mvd c s f to)) j)) (nI j) a) (fun a _ => Gd M S m a) (qH M) (fun a => some (zL (mxo (fun to => decide (to ≠ f) && cb c to) (fun to => gE M g b (mvd c s f to)) (qH M)), a)) (fun n a j hj hG => by
    show ∃ a', _ ∧ f_Ends_bestMoved_L18 N S rec x0 (cs c d) (nI s) (nI f) (33 + 3 * (3 * g + b)) (cs (c - 8 ^ (4 * s + f)) d) _ (n + 1) _ (nI j) a = _
    have he' := hG.env he
    rw [f_Ends_bestMoved_L18, he'.1.1, if_neg (nI_ge hj (by omega))]
    by_cases ef : j = f
    · refine ⟨a, hG, ?_⟩
      rw [if_pos (by rw [ef]), nI_1, mxo_f (by simp [ef])]
    · rw [if_neg (fun w => ef ((nI_eq (by omega) (by omega)).mp w)), t_isThere hL.1 hd (by omega), b1_s]
      cases e1 : cb c j
      · refine ⟨a, hG, ?_⟩
        rw [if_pos (by simp [tf]), nI_1, mxo_f (by simp [e1])]
      · have hL' := Lg_mvd hL hs (f := f) (by omega) (show j < 3 by omega) h0 e1
        have e2 := hl_mvd (t := j) hL.2.2.2.2 hs hf (by omega) h0
        obtain ⟨m1, r1, r2⟩ := hr g b (mvd c s f j) d a hg hb (by omega) hL' hd he' (fun b' hb' => hG.2.2.2.2.1 g b' hg (by omega) (ht b' hb'))
        refine ⟨m1, hG.trans r2, ?_⟩
        rw [if_neg (by simp [tf]), t_with hs (by omega), b1_s, show c - 8 ^ (4 * s + f) + 8 ^ (4 * s + j) = mvd c s f j from rfl, r1, b2_s, nI_1, zL_step (p := fun to => decide (to ≠ f) && cb c to) (F := fun to => gE M g b (mvd c s f to)) (fun i hi => hsm i (by omega)) (by simp [ef, e1])]) (fun n a hG => by
    show f_Ends_bestMoved_L18 N S rec x0 (cs c d) (nI s) (nI f) (33 + 3 * (3 * g + b)) (cs (c - 8 ^ (4 * s + f)) d) _ (n + 1) _ (nI (qH M)) a = _
    rw [f_Ends_bestMoved_L18, (hG.env he).1.1, if_pos (nI_le (Nat.le_refl _) (by omega))]) (qH M) N m 0 (by omega) (by omega) Gd.refl
  exact ⟨m', e, hG⟩
/-- what is looked at before sort s and owner f -/
def PB (M : Mt) (g b c s f : Nat) (v : Int) : Prop := EV M g b c v ∨ ∃ s' f' t, s' < 3 ∧ f' < 3 ∧ t < 3 ∧ f' ≠ t ∧ 0 < am c s' f' ∧ cb c t = true ∧ EV M g b (mvd c s' f' t) v ∧ (s' < s ∨ s' = s ∧ f' < f)
theorem PB_sm (hM : qOk M) {g b c s f : Nat} (hL : Lg M c) {v : Int} (h : PB M g b c s f v) : sm6 v := by
  rcases h with h | ⟨s', f', t, hs, hf, ht, _, h0, hb, h, _⟩
  · exact sm6_s (EV_b hM hL h)
  · exact sm6_s (EV_b hM (Lg_mvd hL hs (by omega) ht h0 hb) h)
theorem PB_no {g b c s f : Nat} {x : Int} (h0 : am c s f = 0) (h : isG (PB M g b c s f) x) : isG (PB M g b c s (f + 1)) x := by
  refine isG_c (fun w => ⟨fun hw => ?_, fun hw => ?_⟩) h
  · rcases hw with hw | ⟨s', f', t, a1, a2, a3, a4, a5, a6, a7, a8⟩
    · exact Or.inl hw
    · exact Or.inr ⟨s', f', t, a1, a2, a3, a4, a5, a6, a7, by omega⟩
  · rcases hw with hw | ⟨s', f', t, a1, a2, a3, a4, a5, a6, a7, a8⟩
    · exact Or.inl hw
    · refine Or.inr ⟨s', f', t, a1, a2, a3, a4, a5, a6, a7, ?_⟩
      rcases a8 with a8 | ⟨rfl, a8⟩
      · exact Or.inl a8
      · refine Or.inr ⟨rfl, ?_⟩
        by_cases e : f' = f
        · subst e; omega
        · omega
theorem PB_yes (hM : qOk M) (hE : qE M) {g b c s f : Nat} {x : Int} (hL : Lg M c) (hs : s < 3) (hf : f < 3) (h0 : 0 < am c s f) (h : isG (PB M g b c s f) x) : ∃ y, (if zL (mxo (fun to => decide (to ≠ f) && cb c to) (fun to => gE M g b (mvd c s f to)) (qH M)) < lz x then lz x else zL (mxo (fun to => decide (to ≠ f) && cb c to) (fun to => gE M g b (mvd c s f to)) (qH M))) = lz y ∧ isG (PB M g b c s (f + 1)) y := by
  have hH := hM.1
  have hx : sm6 x := PB_sm hM hL h.1
  cases e : mxo (fun to => decide (to ≠ f) && cb c to) (fun to => gE M g b (mvd c s f to)) (qH M) with
  | none =>
    refine ⟨x, if_pos (U_lt hx), isG_c (fun w => ⟨fun hw => ?_, fun hw => ?_⟩) h⟩
    · rcases hw with hw | ⟨s', f', t, a1, a2, a3, a4, a5, a6, a7, a8⟩
      · exact Or.inl hw
      · exact Or.inr ⟨s', f', t, a1, a2, a3, a4, a5, a6, a7, by omega⟩
    · rcases hw with hw | ⟨s', f', t, a1, a2, a3, a4, a5, a6, a7, a8⟩
      · exact Or.inl hw
      · refine Or.inr ⟨s', f', t, a1, a2, a3, a4, a5, a6, a7, ?_⟩
        rcases a8 with a8 | ⟨rfl, a8⟩
        · exact Or.inl a8
        · refine Or.inr ⟨rfl, ?_⟩
          by_cases ef : f' = f
          · subst ef
            have := mxo_none e t (hL.2.1 t a3 a6)
            simp [a6] at this
            omega
          · omega
  | some y =>
    have hI := isG_U (A := fun to => EV M g b (mvd c s f to)) (fun i hi hp => gE_is hM hE (Lg_mvd hL hs (by omega) (by omega) h0 (by simp at hp; exact hp.2))) (mxo_isG e)
    have hy : sm6 y := mxo_bd (P := sm6) (fun i hi hp => sm6_s (gE_b hM hE (Lg_mvd hL hs (by omega) (by omega) h0 (by simp at hp; exact hp.2)))) e
    refine ⟨if y < x then x else y, ?_, isG_c (fun w => ⟨fun hw => ?_, fun hw => ?_⟩) (isG_or h hI)⟩
    · show (if lz y < lz x then lz x else lz y) = _
      by_cases q : y < x
      · rw [if_pos q, if_pos ((lz_lt hy hx).mpr q)]
      · rw [if_neg q, if_neg (fun w => q ((lz_lt hy hx).mp w))]
    · rcases hw with (hw | ⟨s', f', t, a1, a2, a3, a4, a5, a6, a7, a8⟩) | ⟨i, hi, hp, hw⟩
      · exact Or.inl hw
      · exact Or.inr ⟨s', f', t, a1, a2, a3, a4, a5, a6, a7, by omega⟩
      · simp at hp
        exact Or.inr ⟨s, f, i, hs, hf, by omega, fun w => hp.1 w.symm, h0, hp.2, hw, Or.inr ⟨rfl, by omega⟩⟩
    · rcases hw with hw | ⟨s', f', t, a1, a2, a3, a4, a5, a6, a7, a8⟩
      · exact Or.inl (Or.inl hw)
      · by_cases ef : s' = s ∧ f' = f
        · obtain ⟨rfl, rfl⟩ := ef
          exact Or.inr ⟨t, hL.2.1 t a3 a6, by simp [a6]; exact fun w => a4 w.symm, a7⟩
        · exact Or.inl (Or.inr ⟨s', f', t, a1, a2, a3, a4, a5, a6, a7, by omega⟩)
theorem PB_row {g b c s : Nat} {x : Int} (hL : Lg M c) (h : isG (PB M g b c s (qH M)) x) : isG (PB M g b c (s + 1) 0) x := by
  refine isG_c (fun w => ⟨fun hw => ?_, fun hw => ?_⟩) h
  · rcases hw with hw | ⟨s', f', t, a1, a2, a3, a4, a5, a6, a7, a8⟩
    · exact Or.inl hw
    · exact Or.inr ⟨s', f', t, a1, a2, a3, a4, a5, a6, a7, by omega⟩
  · rcases hw with hw | ⟨s', f', t, a1, a2, a3, a4, a5, a6, a7, a8⟩
    · exact Or.inl hw
    · have := hL.2.1 f' a2 (hL.2.2.2.1 s' f' a1 a2 a5)
      exact Or.inr ⟨s', f', t, a1, a2, a3, a4, a5, a6, a7, by omega⟩
end CENDS
