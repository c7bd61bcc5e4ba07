/-! THE REFERENCE: the end's value, whole. -/
def VOI : Int32 := -2147483648
theorem VOI_t : VOI.toInt = -2147483648 := by decide
def zI (o : Option Int) : Int32 := match o with
  | none => VOI
  | some x => iz x
theorem iz_V {a : Int} (ha : sm3 a) : ¬ iz a ≤ VOI := by
  rw [Int32.le_iff_toInt_le, iz_t ha, VOI_t]
  have := ha.1
  omega
theorem iz_Vn {a : Int} (ha : sm3 a) : ¬ iz a = VOI := by
  rw [← Int32.toInt_inj, iz_t ha, VOI_t]
  have := ha.1
  omega
theorem zI_step {p : Nat → Bool} {F : Nat → Int} {n : Nat} (h : ∀ i, i < n + 1 → p i = true → sm3 (F i)) (hp : p n = true) : (if iz (F n) ≤ zI (mxo p F n) then zI (mxo p F n) else iz (F n)) = zI (mxo p F (n + 1)) := by
  rw [mxo, if_pos hp]
  cases e : mxo p F n with
  | none => exact if_neg (iz_V (h n (by omega) hp))
  | some y =>
    have hy : sm3 y := mxo_bd (P := sm3) (fun i hi => h i (by omega)) e
    show (if iz (F n) ≤ iz y then iz y else iz (F n)) = iz (if F n < y then y else F n)
    by_cases q : F n < y
    · rw [if_pos q, if_pos ((iz_le (h n (by omega) hp) hy).mpr (by omega))]
    · rw [if_neg q]
      by_cases q2 : F n = y
      · rw [q2, if_pos (Int32.le_refl _)]
      · rw [if_neg (fun w => by have := (iz_le (h n (by omega) hp) hy).mp w; omega)]
section RENDV
variable {N : Nat} {m : Mm} {M : Mt}
/-- how many of the first sorts are held -/
def hp3 (c k : Nat) : Nat := if k = 0 then 0 else if k = 1 then am c 0 3 else if k = 2 then am c 0 3 + am c 1 3 else hl c
theorem hp3_s {c k : Nat} (hk : k < 3) : hp3 c (k + 1) = hp3 c k + am c k 3 ∧ ∀ i, hp3 c k ≤ i → i < hp3 c k + am c k 3 → hL c i = k := by
  unfold hp3 hL hl
  rcases (by omega : k = 0 ∨ k = 1 ∨ k = 2) with rfl | rfl | rfl
  · simp
    intro i hi q
    omega
  · simp
    intro i h1 h2
    rw [if_neg (by omega)]
    rw [if_pos (by omega)]
  · simp
    intro i h1 h2
    rw [if_neg (by omega), if_neg (by omega)]
theorem tR_bare1 {c : Nat} {x3 x4 : Int32} {x5 : Int64} {x7 : Int32} {k : Nat} (hk : k < 3) (h3 : hl c ≤ 3) (K : Int32 → Int64 → Int32 → Mm → Option (Int32 × Mm)) : ∀ (q i fuel : Nat) (m1 : Mm), q < fuel → hp3 c k + am c k 3 = i + q → hp3 c k ≤ i → i + q ≤ 3 → GE m m1 → m1.1 = m.1 → m1.2.2.2 = m.2.2.2 → (∀ a, a ≠ 16 → m1.2.2.1 a = m.2.2.1 a) → (∀ j, j < i → mX m1 16 j = nI (hL c j)) → ∃ m2, f_Mo_ends_L113 N (rz c) x3 x4 x5 x7 (nI k) K fuel (nI i) (rz c - Rq (hL c) i) (nI q) m1 = K (nI (i + q)) (rz c - Rq (hL c) (i + q)) 0 m2 ∧ GE m m2 ∧ m2.1 = m.1 ∧ m2.2.2.2 = m.2.2.2 ∧ (∀ a, a ≠ 16 → m2.2.2.1 a = m.2.2.1 a) ∧ ∀ j, j < i + q → mX m2 16 j = nI (hL c j) := by
  intro q
  induction q with
  | zero =>
    intro i fuel m1 hf h1 h2 h4 a1 a2 a3 a4 a5
    obtain ⟨f, rfl⟩ : ∃ q, fuel = q + 1 := ⟨fuel - 1, by omega⟩
    refine ⟨m1, ?_, a1, a2, a3, a4, a5⟩
    rw [f_Mo_ends_L113, if_pos (show nI 0 ≤ 0 from nI_le (b := 0) (by omega) (by omega))]
    rfl
  | succ q ih =>
    intro i fuel m1 hf h1 h2 h4 a1 a2 a3 a4 a5
    obtain ⟨f, rfl⟩ : ∃ q, fuel = q + 1 := ⟨fuel - 1, by omega⟩
    have e : hL c i = k := (hp3_s hk).2 i h2 (by omega)
    rw [f_Mo_ends_L113, if_neg (nI_nle (by omega) (by omega)), ck_t (nI_in (by omega) (by omega)), show (3 : Int32) = nI 3 from rfl, t_Mone hk (by omega), b1_s, nI_1, pk_m1, nI_clamp (by omega), Int64.sub_sub]
    have er : Rq (hL c) i + lN (8 ^ (3 * 3 + k)) = Rq (hL c) (i + 1) := by
      rw [Rq, e]
    rw [er]
    obtain ⟨m2, b1, b2⟩ := ih (i + 1) f (vX m1 16 i (nI k)) (by omega) (by omega) (by omega) (by omega) (a1.trans ⟨fun _ _ _ => rfl, rfl, fun a _ q2 => by
      funext j
      exact u2_a _ _ _ _ q2, fun _ _ => rfl⟩) a2 a3 (fun a ha => by
      rw [← a4 a ha]
      funext j
      exact u2_a _ _ _ _ ha) (fun j hj => by
      show u2 m1.2.2.1 16 i (nI k) 16 j = _
      by_cases ej : j = i
      · rw [ej, u2_s, e]
      · rw [u2_k _ _ _ _ ej]
        exact a5 j (by omega))
    refine ⟨m2, ?_, ?_⟩
    · rw [b1, show i + 1 + q = i + (q + 1) by omega]
    · rw [show i + (q + 1) = i + 1 + q by omega]
      exact b2
theorem tR_bare {c : Nat} {x3 x4 : Int32} {x5 : Int64} {x7 : Int32} (h3 : hl c ≤ 3) (hN : 100 ≤ N) (K : Int32 → Int64 → Int32 → Mm → Option (Int32 × Mm)) : ∃ m2, f_Mo_ends_L98 N (rz c) x3 x4 x5 x7 K N 0 (rz c) 0 m = K (nI (hl c)) (rz c - Rl (hL c) (hl c)) 3 m2 ∧ GE m m2 ∧ m2.1 = m.1 ∧ m2.2.2.2 = m.2.2.2 ∧ (∀ a, a ≠ 16 → m2.2.2.1 a = m.2.2.1 a) ∧ ∀ j, j < hl c → mX m2 16 j = nI (hL c j) := by
  obtain ⟨m2, ⟨b1, b2, b3, b4, b5⟩, e⟩ := loopE (fun n (a : Mm) j => f_Mo_ends_L98 N (rz c) x3 x4 x5 x7 K n (nI (hp3 c j)) (rz c - Rq (hL c) (hp3 c j)) (nI j) a) (fun a j => GE m a ∧ a.1 = m.1 ∧ a.2.2.2 = m.2.2.2 ∧ (∀ b, b ≠ 16 → a.2.2.1 b = m.2.2.1 b) ∧ ∀ i, i < hp3 c j → mX a 16 i = nI (hL c i)) 3 (fun a => K (nI (hl c)) (rz c - Rl (hL c) (hl c)) 3 a) (fun n a j hj hI => by
    show ∃ a', _ ∧ f_Mo_ends_L98 N (rz c) x3 x4 x5 x7 K (n + 1) (nI (hp3 c j)) _ (nI j) a = _
    have hb : hp3 c j + am c j 3 ≤ hl c := by
      unfold hp3 hl
      rcases (by omega : j = 0 ∨ j = 1 ∨ j = 2) with rfl | rfl | rfl <;> simp <;> omega
    rw [f_Mo_ends_L98, if_neg (n3nle hj), show (3 : Int32) = nI 3 from rfl, t_Mthings hj (by omega), b1_s]
    obtain ⟨m2, c1, c2⟩ := tR_bare1 (N := N) (m := m) (x3 := x3) (x4 := x4) (x5 := x5) (x7 := x7) hj h3 (fun z1 z2 _ z4 => f_Mo_ends_L98 N (rz c) x3 x4 x5 x7 K n z1 z2 ((nI j + 1)) z4) (am c j 3) (hp3 c j) N a (by omega) rfl (Nat.le_refl _) (by omega) hI.1 hI.2.1 hI.2.2.1 hI.2.2.2.1 hI.2.2.2.2
    refine ⟨m2, ?_, ?_⟩
    · rw [(hp3_s hj).1]
      exact c2
    · rw [(hp3_s hj).1, c1, nI_1]) (fun n a hI => by
    show f_Mo_ends_L98 N (rz c) x3 x4 x5 x7 K (n + 1) (nI (hp3 c 3)) _ (nI 3) a = _
    rw [f_Mo_ends_L98, if_pos n3le, ← Rq_Rl]
    rfl) 3 N m 0 (by omega) (by omega) ⟨GE.refl, rfl, rfl, fun _ _ => rfl, fun i hi => by
      have : hp3 c 0 = 0 := rfl
      omega⟩
  refine ⟨m2, ?_, b1, b2, b3, b4, b5⟩
  have e0 : rz c - Rq (hL c) (hp3 c 0) = rz c := by
    show rz c - Rq (hL c) 0 = rz c
    rw [Rq, Int64.sub_zero]
  rw [e0] at e
  exact e
theorem Lg_ap : ∀ (n c code : Nat), hl c = n → Lg M c → okN n code c = true → Lg M (apN n code c) ∧ hl (apN n code c) = 0
  | 0, c, code, h, hL, _ => ⟨hL, h⟩
  | n + 1, c, code, h, hL, ho => by
    rw [okN, Bool.and_eq_true] at ho
    have ht : code % 3 < 3 := Nat.mod_lt _ (by omega)
    have hp : 0 < hl c := by omega
    have e := hl_hnd hL.2.2.2.2 ht hp
    rw [apN]
    exact Lg_ap n _ (code / 3) (by omega) (Lg_mvd hL (hs_lt c) (by omega) ht (hs_pos hp) ho.1) (by rw [okN_c (cb_hnd hL.2.2.2.2 ht hp)]; exact ho.2)
theorem tR_best (hM : qOk M) (hE : qE M) (hW : RW m M) {c g b : Nat} {x5 : Int64} {x7 : Int32} {x9 : Int64} (hL' : Lg M c) (h3 : hl c ≤ 3) (hN : 100 ≤ N) (hg : g < 3) (hb : b < 3) (hS : ∀ i, i < hl c → mX m 16 i = nI (hL c i)) (hx9 : x9 = rz c - Rl (hL c) (hl c)) (K : Int32 → Int32 → Option (Int32 × Mm)) : f_Mo_ends_L195 N (rz c) (nI g) (nI b) x5 x7 (nI (hl c)) x9 (nI (3 ^ hl c)) m K N (-2147483648) 0 = K (iz (gE M g b c)) (nI (3 ^ hl c)) := by
  have h27 : 3 ^ hl c ≤ 27 := by
    rcases (by omega : hl c = 0 ∨ hl c = 1 ∨ hl c = 2 ∨ hl c = 3) with e | e | e | e <;> rw [e] <;> decide
  have hsm : ∀ i, okN (hl c) i c = true → sm3 (gE M g b (apN (hl c) i c)) := fun i hp => sm3_s (gE_b hM hE (Lg_ap _ c i rfl hL' hp).1)
  obtain ⟨_, _, e⟩ := loopE (fun n (_ : Unit) j => f_Mo_ends_L195 N (rz c) (nI g) (nI b) x5 x7 (nI (hl c)) x9 (nI (3 ^ hl c)) m K n (zI (mxo (fun i => okN (hl c) i c) (fun i => gE M g b (apN (hl c) i c)) j)) (nI j)) (fun _ _ => True) (3 ^ hl c) (fun _ => K (zI (mxo (fun i => okN (hl c) i c) (fun i => gE M g b (apN (hl c) i c)) (3 ^ hl c))) (nI (3 ^ hl c))) (fun n a j hj _ => by
    show ∃ a', _ ∧ f_Mo_ends_L195 N (rz c) (nI g) (nI b) x5 x7 (nI (hl c)) x9 (nI (3 ^ hl c)) m K (n + 1) _ (nI j) = _
    refine ⟨(), trivial, ?_⟩
    rw [f_Mo_ends_L195, if_neg (nI_ge hj (by omega)), hx9]
    obtain ⟨z14, z16, zx, e1, e2⟩ := tR_code (N := N) (m := m) (x3 := nI g) (x4 := nI b) (x5 := x5) (x7 := x7) (x9 := rz c - Rl (hL c) (hl c)) (x11 := nI (3 ^ hl c)) (x12 := zI (mxo (fun i => okN (hl c) i c) (fun i => gE M g b (apN (hl c) i c)) j)) (x13 := nI j) h3 hS (fun (z28_14 : Int64) (z28_16 : Int32) (z28_17 : Int32) (z28_18 : Int32) => (if z28_16 = 0 then f_Mo_ends_L195 N (rz c) (nI g) (nI b) x5 x7 (nI (hl c)) (rz c - Rl (hL c) (hl c)) (nI (3 ^ hl c)) m K n (zI (mxo (fun i => okN (hl c) i c) (fun i => gE M g b (apN (hl c) i c)) j)) ((nI j + 1)) else b1 (f_Mo_backed N z28_14 (nI g) (nI b) m) fun r30 => (if r30 ≤ (zI (mxo (fun i => okN (hl c) i c) (fun i => gE M g b (apN (hl c) i c)) j)) then f_Mo_ends_L195 N (rz c) (nI g) (nI b) x5 x7 (nI (hl c)) (rz c - Rl (hL c) (hl c)) (nI (3 ^ hl c)) m K n (zI (mxo (fun i => okN (hl c) i c) (fun i => gE M g b (apN (hl c) i c)) j)) ((nI j + 1)) else f_Mo_ends_L195 N (rz c) (nI g) (nI b) x5 x7 (nI (hl c)) (rz c - Rl (hL c) (hl c)) (nI (3 ^ hl c)) m K n r30 ((nI j + 1))))) (hl c) 0 j N c (by omega) (by omega) (by omega) hL' rfl (fun _ => rfl) (fun i _ => by rw [Nat.zero_add])
    refine Eq.trans e1 ?_
    rcases e2 with ⟨a1, a2, a3⟩ | ⟨a1, a2⟩
    · subst a2 a3
      obtain ⟨b1', b2'⟩ := Lg_ap _ c j rfl hL' a1
      rw [if_neg (show ¬ (1 : Int32) = 0 by decide), tR_backed hM hE hW b1' b2' hN hg hb, b1_s, nI_1, ← zI_step (p := fun i => okN (hl c) i c) (F := fun i => gE M g b (apN (hl c) i c)) (n := j) (fun i _ hp => hsm i hp) a1]
      split <;> rfl
    · subst a2
      rw [if_pos rfl, nI_1, mxo_f (p := fun i => okN (hl c) i c) a1]) (fun n a _ => by
    show f_Mo_ends_L195 N (rz c) (nI g) (nI b) x5 x7 (nI (hl c)) x9 (nI (3 ^ hl c)) m K (n + 1) _ (nI (3 ^ hl c)) = _
    rw [f_Mo_ends_L195, if_pos (nI_le (Nat.le_refl _) (by omega))]) (3 ^ hl c) N () 0 (by omega) (by omega) trivial
  have ex : mxo (fun i => okN (hl c) i c) (fun i => gE M g b (apN (hl c) i c)) (3 ^ hl c) = some (gE M g b c) := by
    cases e3 : mxo (fun i => okN (hl c) i c) (fun i => gE M g b (apN (hl c) i c)) (3 ^ hl c) with
    | none =>
      obtain ⟨c', hc'⟩ := HO_ex hM hE (hl c) c rfl hL'
      obtain ⟨code, q1, q2, _⟩ := (HO_code _ _ _ rfl hL'.2.2.2.2).mp hc'
      have := mxo_none e3 code q1
      rw [q2] at this
      cases this
    | some x =>
      have := isG_U (A := fun i => EV M g b (apN (hl c) i c)) (fun i hi hp => gE_is hM hE (Lg_ap _ c i rfl hL' hp).1) (mxo_isG e3)
      rw [isG_u (isG_c (fun w => (EV_code hL' w).symm) this) (gE_is hM hE hL')]
  rw [ex] at e
  exact e
end RENDV
