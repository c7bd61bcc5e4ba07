/-! THE REFERENCE: the end's values, by its table of keys. -/
def cnt (p : Nat → Bool) : Nat → Nat
  | 0 => 0
  | n + 1 => cnt p n + (if p n = true then 1 else 0)
theorem cnt_ex {p : Nat → Bool} : ∀ {n : Nat}, cnt p n < n → ∃ j, j < n ∧ p j = false
  | 0, h => by omega
  | n + 1, h => by
    rw [cnt] at h
    by_cases q : p n = true
    · rw [if_pos q] at h
      obtain ⟨j, hj, e⟩ := cnt_ex (p := p) (n := n) (by omega)
      exact ⟨j, by omega, e⟩
    · exact ⟨n, by omega, by simpa using q⟩
theorem cnt_upd {p p' : Nat → Bool} {i : Nat} (h : ∀ j, j ≠ i → p' j = p j) : ∀ n, cnt p' n ≤ cnt p n + (if i < n then 1 else 0)
  | 0 => by simp [cnt]
  | n + 1 => by
    have ih := cnt_upd h n
    rw [cnt, cnt]
    by_cases e : n = i
    · subst e
      have e1 : (if n < n then 1 else 0) = 0 := if_neg (by omega)
      have e2 : (if n < n + 1 then 1 else 0) = 1 := if_pos (by omega)
      rw [e1] at ih
      rw [e2]
      split <;> split <;> omega
    · rw [h n e]
      by_cases q : i < n
      · have e1 : (if i < n then 1 else 0) = 1 := if_pos q
        have e2 : (if i < n + 1 then 1 else 0) = 1 := if_pos (by omega)
        rw [e1] at ih
        rw [e2]
        omega
      · have e1 : (if i < n then 1 else 0) = 0 := if_neg q
        have e2 : (if i < n + 1 then 1 else 0) = 0 := if_neg (by omega)
        rw [e1] at ih
        rw [e2]
        omega
theorem cnt_0 {p : Nat → Bool} : ∀ {n : Nat}, (∀ j, j < n → p j = false) → cnt p n = 0
  | 0, _ => rfl
  | n + 1, h => by
    rw [cnt, cnt_0 (n := n) (fun j hj => h j (by omega)), h n (by omega)]
    rfl
/-- a walk round a table finds the first place where it may stop -/
theorem probe {β : Type} {T : Nat} (W : Nat → Nat → β) (stop : Nat → Prop) (K : Nat → β) (hs : ∀ n j, j < T → stop j → W (n + 1) j = K j) (hg : ∀ n j, j < T → ¬ stop j → W (n + 1) j = W n ((j + 1) % T)) {j0 : Nat} (hj0 : stop j0) : ∀ (k i n : Nat), i < T → (i + k) % T = j0 → k < n → ∃ q, q ≤ k ∧ stop ((i + q) % T) ∧ (∀ q', q' < q → ¬ stop ((i + q') % T)) ∧ W n i = K ((i + q) % T)
  | 0, i, n, hi, e, hn => by
    obtain ⟨n, rfl⟩ : ∃ q, n = q + 1 := ⟨n - 1, by omega⟩
    have e2 : i = j0 := by rw [← e, Nat.add_zero, Nat.mod_eq_of_lt hi]
    refine ⟨0, Nat.le_refl _, ?_, fun q hq => by omega, ?_⟩
    · rw [e]; exact hj0
    · rw [e, ← e2]
      exact hs n i hi (by rw [e2]; exact hj0)
  | k + 1, i, n, hi, e, hn => by
    obtain ⟨n, rfl⟩ : ∃ q, n = q + 1 := ⟨n - 1, by omega⟩
    by_cases q : stop i
    · refine ⟨0, by omega, ?_, fun q hq => by omega, ?_⟩
      · show stop (i % T)
        rw [Nat.mod_eq_of_lt hi]; exact q
      · show W (n + 1) i = K (i % T)
        rw [Nat.mod_eq_of_lt hi]; exact hs n i hi q
    · have hT : 0 < T := by omega
      have e3 : ∀ a, ((i + 1) % T + a) % T = (i + (a + 1)) % T := fun a => by rw [Nat.mod_add_mod]; congr 1; omega
      obtain ⟨u, h1, h2, h3, h4⟩ := probe W stop K hs hg hj0 k ((i + 1) % T) n (Nat.mod_lt _ hT) (by rw [e3]; exact e) (by omega)
      refine ⟨u + 1, by omega, by rw [← e3]; exact h2, fun a ha => ?_, ?_⟩
      · by_cases a0 : a = 0
        · subst a0
          show ¬ stop (i % T)
          rw [Nat.mod_eq_of_lt hi]; exact q
        · have := h3 (a - 1) (by omega)
          rw [e3, show a - 1 + 1 = a by omega] at this
          exact this
      · rw [hg n i hi q, h4, e3]
theorem probe2 {β : Type} {T : Nat} (W : Nat → Nat → β) (stop : Nat → Prop) (K : Nat → β) (hs : ∀ n j, j < T → stop j → W (n + 1) j = K j) (hg : ∀ n j, j < T → ¬ stop j → W (n + 1) j = W n ((j + 1) % T)) {j0 i n : Nat} (h0 : j0 < T) (hj0 : stop j0) (hi : i < T) (hn : T < n) : ∃ q, q < T ∧ stop ((i + q) % T) ∧ (∀ q', q' < q → ¬ stop ((i + q') % T)) ∧ W n i = K ((i + q) % T) := by
  have hT : 0 < T := by omega
  obtain ⟨q, h1, h2⟩ := probe W stop K hs hg hj0 ((j0 + T - i) % T) i n hi (by rw [Nat.add_mod_mod, show i + (j0 + T - i) = j0 + T by omega, Nat.add_mod_right, Nat.mod_eq_of_lt h0]) (by have := Nat.mod_lt (j0 + T - i) hT; omega)
  exact ⟨q, by have := Nat.mod_lt (j0 + T - i) hT; omega, h2⟩
/-! what stays in the reference's memory -/
def GE (m m' : Mm) : Prop := (∀ a k, ¬ (a = 0 ∧ k = 33) → m'.1 a k = m.1 a k) ∧ m'.2.1 = m.2.1 ∧ (∀ a, a ≠ 15 → a ≠ 16 → m'.2.2.1 a = m.2.2.1 a) ∧ ∀ a, a ≠ 14 → m'.2.2.2 a = m.2.2.2 a
theorem GE.refl {m : Mm} : GE m m := ⟨fun _ _ _ => rfl, rfl, fun _ _ _ => rfl, fun _ _ => rfl⟩
theorem GE.trans {m m1 m2 : Mm} (h : GE m m1) (h' : GE m1 m2) : GE m m2 := ⟨fun a k q => (h'.1 a k q).trans (h.1 a k q), h'.2.1.trans h.2.1, fun a q1 q2 => (h'.2.2.1 a q1 q2).trans (h.2.2.1 a q1 q2), fun a q => (h'.2.2.2 a q).trans (h.2.2.2 a q)⟩
def kE (c g b : Nat) : Nat := rf c * 16 + (4 * b + g) + 1
/-- the table of ends is right -/
def RE (m : Mm) (M : Mt) : Prop := (∃ E, mI m 0 33 = nI E ∧ E ≤ 131072 ∧ cnt (fun j => decide (mYy m 14 j ≠ 0)) 262144 ≤ E) ∧ ∀ j c g b, j < 262144 → Lg M c → g < 3 → b < 3 → mYy m 14 j = lN (kE c g b) → mX m 15 j = iz (gE M g b c)
theorem RW_of {m m' : Mm} {M : Mt} (h1 : ∀ k, k = 16 ∨ k = 18 ∨ k = 21 ∨ k = 22 → m'.1 0 k = m.1 0 k) (h3 : ∀ a, a = 7 ∨ a = 8 ∨ a = 9 → m'.2.2.1 a = m.2.2.1 a) (h : RW m M) : RW m' M := by
  have e1 : mI m' 0 16 = mI m 0 16 := h1 16 (by omega)
  have e2 : mI m' 0 18 = mI m 0 18 := h1 18 (by omega)
  have e3 : mI m' 0 21 = mI m 0 21 := h1 21 (by omega)
  have e4 : mI m' 0 22 = mI m 0 22 := h1 22 (by omega)
  have e5 : ∀ k, mX m' 7 k = mX m 7 k := fun k => by unfold mX; rw [h3 7 (by omega)]
  have e6 : ∀ k, mX m' 8 k = mX m 8 k := fun k => by unfold mX; rw [h3 8 (by omega)]
  have e7 : ∀ k, mX m' 9 k = mX m 9 k := fun k => by unfold mX; rw [h3 9 (by omega)]
  unfold RW at *
  simp only [e1, e2, e3, e4, e5, e6, e7]
  exact h
theorem GE.rw {m m' : Mm} {M : Mt} (h : GE m m') (hw : RW m M) : RW m' M := RW_of (fun k hk => h.1 0 k (by omega)) (fun a ha => h.2.2.1 a (by omega) (by omega)) hw
theorem kE_key {c g b : Nat} (hg : g < 3) (hb : b < 3) : (lsl (rz c) 4 ||| (4 * (nI b).toInt64 + (nI g).toInt64)) + 1 = lN (kE c g b) := by
  have h1 := rf_lt c
  have h2 : (8 : Nat) ^ 13 = 549755813888 := by decide
  unfold rz
  rw [show (4 : Int32) = nI 4 from rfl, lsl_n _ (by omega), nI_l (by omega), nI_l (by omega), show (4 : Int64) = lN 4 from rfl, lN_mul, lN_add, wb_or (by omega) (by omega), show (1 : Int64) = lN 1 from rfl]
  have := Nat.two_pow_add_eq_or_of_lt (i := 4) (b := 4 * b + g) (by omega) (rf c)
  rw [Nat.mul_comm (rf c) (2 ^ 4), ← this, lN_add]
  unfold kE
  congr 1
  omega
theorem kE_lt {c g b : Nat} (hg : g < 3) (hb : b < 3) : kE c g b < 2 ^ 60 := by
  have h1 := rf_lt c
  have : (8 : Nat) ^ 13 = 549755813888 := by decide
  unfold kE
  omega
theorem kE_inj {c g b c' g' b' : Nat} (hc : c < 8 ^ 13) (hc' : c' < 8 ^ 13) (hg : g < 3) (hb : b < 3) (hg' : g' < 3) (hb' : b' < 3) (h : lN (kE c g b) = lN (kE c' g' b')) : c = c' ∧ g = g' ∧ b = b' := by
  have h1 := kE_lt (c := c) hg hb
  have h2 := kE_lt (c := c') hg' hb'
  have := (pk_lEQ (by omega) (by omega)).mp h
  unfold kE at this
  have e : rf c = rf c' := by omega
  exact ⟨rf_inj hc hc' e, by omega, by omega⟩
theorem kE_0 {c g b : Nat} (hg : g < 3) (hb : b < 3) : ¬ lN (kE c g b) = 0 := by
  have h1 := kE_lt (c := c) hg hb
  intro e
  have := (pk_lEQ (a := kE c g b) (b := 0) (by omega) (by omega)).mp e
  unfold kE at this
  omega
theorem hash_46 (x : Int64) : ∃ j, j < 262144 ∧ (lus x 46).toInt32 = nI j := by
  obtain ⟨n, hn, rfl⟩ := wb_of x
  refine ⟨n / 2 ^ 46, ?_, ?_⟩
  · exact Nat.div_lt_of_lt_mul (by omega)
  · rw [show (46 : Int32) = nI 46 from rfl, lus_n hn (by omega), lN_i]
theorem nI_and (k : Nat) {n : Nat} {x : Int32} (h : x.toBitVec.toNat = 2 ^ k - 1) (hn : n < 2 ^ 32) : nI n &&& x = nI (n % 2 ^ k) := pk_andN hn k h
/-! codes: who gets what is held -/
def apN : Nat → Nat → Nat → Nat
  | 0, _, c => c
  | n + 1, code, c => apN n (code / 3) (hnd c (code % 3))
def okN : Nat → Nat → Nat → Bool
  | 0, _, _ => true
  | n + 1, code, c => cb c (code % 3) && okN n (code / 3) c
def hL (c i : Nat) : Nat := if i < am c 0 3 then 0 else if i < am c 0 3 + am c 1 3 then 1 else 2
theorem hL_lt (c i : Nat) : hL c i < 3 := by unfold hL; split <;> (try split) <;> omega
theorem hL_0 {c : Nat} (h : 0 < hl c) : hL c 0 = hs c := by
  unfold hL hs
  by_cases h0 : 0 < am c 0 3
  · rw [if_pos h0, if_pos h0]
  · rw [if_neg h0, if_neg h0]
    by_cases h1 : 0 < am c 1 3
    · rw [if_pos (by omega), if_pos h1]
    · rw [if_neg (by omega), if_neg h1]
theorem hL_s {c t : Nat} (h6 : tt c ≤ 6) (ht : t < 3) (h : 0 < hl c) (i : Nat) : hL (hnd c t) i = hL c (i + 1) := by
  have h0 := hs_pos h
  have h3 := hs_lt c
  have e : ∀ s', am (hnd c t) s' 3 = am c s' 3 - (if s' = hs c then 1 else 0) := by
    intro s'
    unfold hnd
    rw [am_mvd h6 h3 (by omega) (by omega) h0 (by omega)]
    simp [show ¬ 3 = t by omega]
  by_cases a0 : 0 < am c 0 3
  · have hs0 : hs c = 0 := by unfold hs; rw [if_pos a0]
    have e0 : am (hnd c t) 0 3 = am c 0 3 - 1 := by rw [e, if_pos hs0.symm]
    have e1 : am (hnd c t) 1 3 = am c 1 3 := by rw [e, if_neg (by omega)]; rfl
    unfold hL
    rw [e0, e1]
    repeat' split
    all_goals omega
  · by_cases a1 : 0 < am c 1 3
    · have hs0 : hs c = 1 := by unfold hs; rw [if_neg a0, if_pos a1]
      have e0 : am (hnd c t) 0 3 = am c 0 3 := by rw [e, if_neg (by omega)]; rfl
      have e1 : am (hnd c t) 1 3 = am c 1 3 - 1 := by rw [e, if_pos hs0.symm]
      unfold hL
      rw [e0, e1]
      repeat' split
      all_goals omega
    · have hs0 : hs c = 2 := by unfold hs; rw [if_neg a0, if_neg a1]
      have e0 : am (hnd c t) 0 3 = am c 0 3 := by rw [e, if_neg (by omega)]; rfl
      have e1 : am (hnd c t) 1 3 = am c 1 3 := by rw [e, if_neg (by omega)]; rfl
      unfold hL
      rw [e0, e1]
      repeat' split
      all_goals omega
theorem cb_hnd {c t : Nat} (h6 : tt c ≤ 6) (ht : t < 3) (h : 0 < hl c) (k : Nat) : cb (hnd c t) k = cb c k := cb_mvd h6 (hs_lt c) (by omega) (by omega) (hs_pos h) k
theorem tt_hnd {c t : Nat} (h6 : tt c ≤ 6) (ht : t < 3) (h : 0 < hl c) : tt (hnd c t) = tt c := tt_mvd h6 (hs_lt c) (by omega) (by omega) (hs_pos h)
theorem okN_c {c c' : Nat} (h : ∀ k, cb c k = cb c' k) : ∀ (n code : Nat), okN n code c = okN n code c'
  | 0, _ => rfl
  | n + 1, code => by rw [okN, okN, h, okN_c h n]
theorem HO_code : ∀ (n c c' : Nat), hl c = n → tt c ≤ 6 → (HO n c c' ↔ ∃ code, code < 3 ^ n ∧ okN n code c = true ∧ c' = apN n code c)
  | 0, c, c', _, _ => ⟨fun h => ⟨0, by decide, rfl, h⟩, fun ⟨_, _, _, h⟩ => h⟩
  | n + 1, c, c', hn, h6 => by
    have hp : 0 < hl c := by omega
    have ih := fun t (ht : t < 3) => HO_code n (hnd c t) c' (by have := hl_hnd h6 ht hp; omega) (by rw [tt_hnd h6 ht hp]; exact h6)
    constructor
    · intro ⟨t, ht, hb, h⟩
      obtain ⟨q, h1, h2, h3⟩ := (ih t ht).mp h
      refine ⟨3 * q + t, by rw [Nat.pow_succ]; omega, ?_, ?_⟩
      · rw [okN, show (3 * q + t) % 3 = t by omega, show (3 * q + t) / 3 = q by omega, hb, ← okN_c (cb_hnd h6 ht hp), h2]
        rfl
      · rw [apN, show (3 * q + t) % 3 = t by omega, show (3 * q + t) / 3 = q by omega]
        exact h3
    · intro ⟨code, h1, h2, h3⟩
      rw [okN, Bool.and_eq_true] at h2
      have ht : code % 3 < 3 := Nat.mod_lt _ (by omega)
      refine ⟨code % 3, ht, h2.1, (ih _ ht).mpr ⟨code / 3, by rw [Nat.pow_succ] at h1; omega, by rw [okN_c (cb_hnd h6 ht hp)]; exact h2.2, h3⟩⟩
/-- what is held, as one number -/
def Rl : (Nat → Nat) → Nat → Int64
  | _, 0 => 0
  | f, r + 1 => lN (8 ^ (9 + f 0)) + Rl (fun i => f (i + 1)) r
def Rq (f : Nat → Nat) : Nat → Int64
  | 0 => 0
  | r + 1 => Rq f r + lN (8 ^ (9 + f r))
theorem Rl_c : ∀ (r : Nat) {f f' : Nat → Nat}, (∀ i, i < r → f i = f' i) → Rl f r = Rl f' r
  | 0, _, _, _ => rfl
  | r + 1, f, f', h => by rw [Rl, Rl, h 0 (by omega), Rl_c r (fun i hi => h (i + 1) (by omega))]
theorem Rq_Rl : ∀ (r : Nat) (f : Nat → Nat), Rq f r = Rl f r := by
  have key : ∀ (r : Nat) (f : Nat → Nat), Rq f (r + 1) = lN (8 ^ (9 + f 0)) + Rq (fun i => f (i + 1)) r := by
    intro r
    induction r with
    | zero => intro f; rw [Rq, Rq, Rq, Int64.zero_add, Int64.add_zero]
    | succ r ih => intro f; rw [Rq, ih f, Rq, Int64.add_assoc]
  intro r
  induction r with
  | zero => intro f; rfl
  | succ r ih => intro f; rw [key, Rl, ih]
theorem i64_r (z a R b : Int64) : z - (a + R) + b = z - a + b - R := by
  rw [← Int64.sub_sub, Int64.sub_eq_add_neg (z - a) R, Int64.add_assoc, Int64.add_comm (-R) b, ← Int64.add_assoc, ← Int64.sub_eq_add_neg]
section RENDS
variable {N : Nat} {m : Mm} {M : Mt}
theorem irm3 {n : Nat} (h : n < 2 ^ 31) : irm (nI n) 3 = nI (n % 3) := pk_rem (d := 3) h (by omega) (by omega)
theorem tR_code0 {c0 : Nat} {x3 x4 : Int32} {x5 : Int64} {x7 : Int32} {n : Nat} {x9 : Int64} {x11 x12 x13 : Int32} (hn : n ≤ 3) (hS : ∀ i, i < n → ∃ s, s < 3 ∧ mX m 16 i = nI s) (K : Int64 → Int32 → Int32 → Int32 → Option (Int32 × Mm)) : ∀ (r k code fuel : Nat) (x14 : Int64), k + r = n → r < fuel → code < 2 ^ 31 → ∃ z14 zx, f_Mo_ends_L216 N (rz c0) x3 x4 x5 x7 (nI n) x9 x11 x12 x13 m K fuel x14 0 (nI code) (nI k) = K z14 0 zx (nI n) := by
  intro r
  induction r with
  | zero =>
    intro k code fuel x14 hk hf hc
    obtain ⟨f, rfl⟩ : ∃ q, fuel = q + 1 := ⟨fuel - 1, by omega⟩
    rw [f_Mo_ends_L216, if_pos (nI_le (by omega) (by omega)), show k = n by omega]
    exact ⟨_, _, rfl⟩
  | succ r ih =>
    intro k code fuel x14 hk hf hc
    obtain ⟨f, rfl⟩ : ∃ q, fuel = q + 1 := ⟨fuel - 1, by omega⟩
    obtain ⟨s, hs, e⟩ := hS k (by omega)
    rw [f_Mo_ends_L216, if_neg (nI_ge (by omega) (by omega))]
    simp only [jn, if_true]
    rw [ck_t (nI_in (by omega) (by omega))]
    simp only [nI_clamp (show k < 2 ^ 31 by omega)]
    rw [e, irm3 hc, t_Mone hs (by omega), b1_s, show (3 : Int32) = nI 3 from rfl, pk_div hc (by omega) (by omega), nI_1]
    exact ih (k + 1) (code / 3) f _ (by omega) (by omega) (by omega)
theorem L216_s {c0 : Nat} {x3 x4 : Int32} {x5 : Int64} {x7 : Int32} {n k s code f : Nat} {x9 x14 : Int64} {x11 x12 x13 x16 : Int32} (K : Int64 → Int32 → Int32 → Int32 → Option (Int32 × Mm)) (hk : k < n) (hn : n ≤ 3) (hs : s < 3) (e : mX m 16 k = nI s) (hc : code < 2 ^ 31) (h16 : ¬ x16 = 0) : f_Mo_ends_L216 N (rz c0) x3 x4 x5 x7 (nI n) x9 x11 x12 x13 m K (f + 1) x14 x16 (nI code) (nI k) = f_Mo_ends_L216 N (rz c0) x3 x4 x5 x7 (nI n) x9 x11 x12 x13 m K f (x14 + lN (8 ^ (3 * (code % 3) + s))) (tf (cb c0 (code % 3))) (nI (code / 3)) (nI (k + 1)) := by
  have hix : ix (nI k) 8 := nI_in (by omega) (by omega)
  rw [f_Mo_ends_L216, if_neg (nI_ge (by omega) (by omega))]
  simp only [jn, ck_t hix]
  rw [if_neg h16, irm3 hc, t_MhasCome (by omega), b1_s]
  simp only [nI_clamp (show k < 2 ^ 31 by omega)]
  rw [e, t_Mone hs (by omega), show (3 : Int32) = nI 3 from rfl, pk_div hc (by omega) (by omega), nI_1]
  simp only [b1_s]
  cases eb : cb c0 (code % 3)
  · rw [if_pos (by simp [tf])]
    rfl
  · rw [if_neg (by simp [tf])]
    rfl
theorem tR_code {c0 : Nat} {x3 x4 : Int32} {x5 : Int64} {x7 : Int32} {n : Nat} {x9 : Int64} {x11 x12 x13 : Int32} (hn : n ≤ 3) (hS : ∀ i, i < n → mX m 16 i = nI (hL c0 i)) (K : Int64 → Int32 → Int32 → Int32 → Option (Int32 × Mm)) : ∀ (r k code fuel c : Nat), k + r = n → r < fuel → code < 2 ^ 31 → Lg M c → hl c = r → (∀ j, cb c j = cb c0 j) → (∀ i, i < r → hL c i = hL c0 (k + i)) → ∃ z14 z16 zx, f_Mo_ends_L216 N (rz c0) x3 x4 x5 x7 (nI n) x9 x11 x12 x13 m K fuel (rz c - Rl (hL c) r) 1 (nI code) (nI k) = K z14 z16 zx (nI n) ∧ (okN r code c0 = true ∧ z16 = 1 ∧ z14 = rz (apN r code c) ∨ okN r code c0 = false ∧ z16 = 0) := by
  intro r
  induction r with
  | zero =>
    intro k code fuel c hk hf hc hLg hh hb hLi
    obtain ⟨f, rfl⟩ : ∃ q, fuel = q + 1 := ⟨fuel - 1, by omega⟩
    rw [f_Mo_ends_L216, if_pos (nI_le (by omega) (by omega)), show k = n by omega]
    exact ⟨_, _, _, rfl, Or.inl ⟨by rw [okN], rfl, by rw [Rl, Int64.sub_zero, apN]⟩⟩
  | succ r ih =>
    intro k code fuel c hk hf hc hLg hh hb hLi
    obtain ⟨f, rfl⟩ : ∃ q, fuel = q + 1 := ⟨fuel - 1, by omega⟩
    have hp : 0 < hl c := by omega
    have h6 := hLg.2.2.2.2
    have ht : code % 3 < 3 := Nat.mod_lt _ (by omega)
    have e0 : hL c0 k = hs c := by
      have := hLi 0 (by omega)
      rw [Nat.add_zero] at this
      rw [← this, hL_0 hp]
    have hs3 := hs_lt c
    rw [L216_s K (by omega) hn hs3 (by rw [hS k (by omega), e0]) hc (show ¬ (1 : Int32) = 0 by decide)]
    cases eb : cb c0 (code % 3)
    · rw [tf_f]
      obtain ⟨z14, zx, e⟩ := tR_code0 (N := N) (m := m) (c0 := c0) (x3 := x3) (x4 := x4) (x5 := x5) (x7 := x7) (x9 := x9) (x11 := x11) (x12 := x12) (x13 := x13) hn (fun i hi => ⟨hL c0 i, hL_lt _ _, hS i hi⟩) K r (k + 1) (code / 3) f (rz c - Rl (hL c) (r + 1) + lN (8 ^ (3 * (code % 3) + hs c))) (by omega) (by omega) (by omega)
      exact ⟨z14, 0, zx, e, Or.inr ⟨by rw [okN, eb, Bool.false_and], rfl⟩⟩
    · rw [tf_t]
      have hbc : cb c (code % 3) = true := by rw [hb]; exact eb
      have hn2 := hl_hnd h6 ht hp
      have er : rz c - Rl (hL c) (r + 1) + lN (8 ^ (3 * (code % 3) + hs c)) = rz (hnd c (code % 3)) - Rl (hL (hnd c (code % 3))) r := by
        rw [Rl, hL_0 hp, i64_r, Rl_c r (fun i _ => (hL_s h6 ht hp i).symm)]
        have := rz_mvd hLg hs3 (h := 3) (t := code % 3) (by omega) ht (hs_pos hp)
        have e9 : 3 * 3 + hs c = 9 + hs c := by omega
        have eh : mvd c (hs c) 3 (code % 3) = hnd c (code % 3) := by unfold hnd; exact Eq.refl _
        rw [e9, eh] at this
        rw [this]
      rw [er]
      obtain ⟨z14, z16, zx, e, h⟩ := ih (k + 1) (code / 3) f (hnd c (code % 3)) (by omega) (by omega) (by omega) (Lg_mvd hLg hs3 (by omega) ht (hs_pos hp) hbc) (by omega) (fun j => by rw [cb_hnd h6 ht hp, hb]) (fun i hi => by rw [hL_s h6 ht hp, hLi (i + 1) (by omega)]; congr 1; omega)
      refine ⟨z14, z16, zx, e, ?_⟩
      rw [okN, eb, apN, Bool.true_and]
      exact h
theorem EV_code {g b c : Nat} (hL : Lg M c) (v : Int) : EV M g b c v ↔ ∃ code, code < 3 ^ hl c ∧ okN (hl c) code c = true ∧ EV M g b (apN (hl c) code c) v := by
  constructor
  · intro ⟨c1, c2, h1, h2, h3⟩
    have h0 := (HO_lg _ _ _ rfl hL h1).2
    obtain ⟨code, a1, a2, rfl⟩ := (HO_code _ _ _ rfl hL.2.2.2.2).mp h1
    exact ⟨code, a1, a2, _, c2, by rw [h0]; rfl, h2, h3⟩
  · intro ⟨code, a1, a2, c1, c2, h1, h2, h3⟩
    have hH := (HO_code _ c _ rfl hL.2.2.2.2).mpr ⟨code, a1, a2, rfl⟩
    have h0 := (HO_lg _ _ _ rfl hL hH).2
    rw [h0] at h1
    have e1 : c1 = apN (hl c) code c := h1
    rw [e1] at h2
    exact ⟨_, c2, hH, h2, h3⟩
end RENDS
