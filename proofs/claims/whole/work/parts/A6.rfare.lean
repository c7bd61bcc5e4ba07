/-! FARE: the class's answer; the reference's lists. -/
section FAREC
variable {N : Nat} {M : Mt}
theorem tC_fare (hM : qOk M) (hE : qE M) (hN : 1000000 ≤ N) {S : St} {m : Mm} {way g c d : Nat} {mean : Bool} (hg : g < 3) (hway : way ≤ 4) (h6 : mI m 0 6 = 1) (hC : CIb M S m) (hn : CN m c d none) (hw : NW M c d none) : ∃ m' S', f_SC_fare N S (nI way) (nI g) (tf mean) m = some (tld mean (oW M way mean g (qD M - d) c) (qD M - d), m', S') ∧ Rq1 M S m S' m' 8 := by
  have hD := hM.2.1
  obtain ⟨m1, S1, e1, r1, hR⟩ := t_bookWays (mean := mean) hM hE hN hg hway hC
  have hn1 := r1.2.1.cn hn
  obtain ⟨m2, e2, hG⟩ := tW_rec (S := S1) (mean := mean) hM hE hN hg hway 8 c d m1 hw.2.1 (by omega) ⟨hw.1, hw.2.2.2.1, hw.2.2.1⟩ hR
  have e2' : f_Ways_outcome N S1 (cs c d) m1 = some (lz (oW M way mean g (qD M - d) c), m2) := e2
  have r2 := r1.gd hG
  refine ⟨m2, S1, ?_, r2⟩
  unfold f_SC_fare f_SC_canLookAhead
  rw [h6, if_neg (show ¬ (1 : Int32) = 0 by decide), tC_isGoal hg, b1_s, if_neg (show ¬ (1 : Int32) = 0 by decide), hn.2, if_pos (show zOpt none = -1 from rfl), b1_s, if_neg (show ¬ (1 : Int32) = 0 by decide), if_neg (nI_pos (by omega)), if_pos (show nI way ≤ 4 from nI_le (b := 4) hway (by omega)), e1]
  show ckc (ShC S1) (ck _ _) = _
  rw [ckc_t r1.1.1, ck_t rfl, hn1.1, e2', b2_s]
  cases mean with
  | false => rw [if_pos tf_f, lz_i]; rfl
  | true => rw [if_neg tft, tC_thou hM hN r2.1.2.1.1 (r2.2.1.cn hn) hw, b1_s]
end FAREC
/-! sums and least ones over a row of rows -/
theorem sumA_c {n : Nat} {f f' : Nat → Int} (h : ∀ i, i < n → f i = f' i) : sumA n f = sumA n f' := by
  induction n with
  | zero => rfl
  | succ n ih => rw [sumA_s, sumA_s, ih (fun i hi => h i (by omega)), h n (by omega)]
theorem sumA_add (n k : Nat) (f : Nat → Int) : sumA (n + k) f = sumA n f + sumA k (fun i => f (n + i)) := by
  induction k with
  | zero => show sumA n f = sumA n f + 0; omega
  | succ k ih =>
    show sumA (n + k + 1) f = _
    rw [sumA_s, sumA_s, ih]
    omega
theorem sumA_rows (A : Nat) (f : Nat → Int) : ∀ n, sumA (n * A) f = sumA n (fun i => sumA A (fun a => f (i * A + a)))
  | 0 => by rw [Nat.zero_mul]; rfl
  | n + 1 => by rw [Nat.succ_mul, sumA_add, sumA_s, sumA_rows A f n]
theorem sumA_mul (n : Nat) (x : Int) (f : Nat → Int) : sumA n (fun i => x * f i) = x * sumA n f := by
  induction n with
  | zero => show (0 : Int) = x * 0; omega
  | succ n ih => rw [sumA_s, sumA_s, ih, Int.mul_add]
theorem minA_eq {n : Nat} {f : Nat → Int} {x : Int} (hn : 0 < n) (h1 : ∀ i, i < n → x ≤ f i) (h2 : ∃ i, i < n ∧ f i = x) : minA n f = x := by
  obtain ⟨a1, _, a3⟩ := minA_is f n
  obtain ⟨i, hi, e⟩ := h2
  rcases a3 with ⟨k, hk, ek⟩ | ⟨e0, _⟩
  · have := h1 k hk
    have := a1 i hi
    omega
  · omega
theorem minA_rows {A n : Nat} (hA : 0 < A) (hn : 0 < n) (f : Nat → Int) : minA (n * A) f = minA n (fun i => minA A (fun a => f (i * A + a))) := by
  have hnA : 0 < n * A := Nat.mul_pos hn hA
  refine minA_eq hnA (fun k hk => ?_) ?_
  · have hq : k / A < n := Nat.div_lt_of_lt_mul (by rw [Nat.mul_comm]; exact hk)
    have h1 := (minA_is (fun i => minA A (fun a => f (i * A + a))) n).1 (k / A) hq
    have h2 := (minA_is (fun a => f (k / A * A + a)) A).1 (k % A) (Nat.mod_lt _ hA)
    have e : k / A * A + k % A = k := by rw [Nat.mul_comm]; exact Nat.div_add_mod k A
    rw [e] at h2
    exact Int.le_trans h1 h2
  · rcases (minA_is (fun i => minA A (fun a => f (i * A + a))) n).2.2 with ⟨i, hi, e⟩ | ⟨e0, _⟩
    · rcases (minA_is (fun a => f (i * A + a)) A).2.2 with ⟨a, ha, e2⟩ | ⟨e0, _⟩
      · refine ⟨i * A + a, ?_, ?_⟩
        · calc i * A + a < i * A + A := by omega
            _ = (i + 1) * A := by rw [Nat.succ_mul]
            _ ≤ n * A := Nat.mul_le_mul_right _ hi
        · rw [e, ← e2]
      · omega
    · omega
/-- the lists: how many, which states, which shares -/
def nK (M : Mt) (d : Nat) : Nat → Nat
  | 0 => 1
  | j + 1 => nK M d j * qA M (d + j)
noncomputable def sK (M : Mt) (way c d : Nat) : Nat → Nat → Nat
  | 0, _ => c
  | j + 1, i => nxW M way (qD M - (d + j + 1)) (sK M way c d j (i / qA M (d + j))) (d + j) (i % qA M (d + j))
def hK (M : Mt) (d : Nat) : Nat → Nat → Int
  | 0, _ => 1
  | j + 1, i => hK M d j (i / qA M (d + j)) * (qC M (d + j) (i % qA M (d + j)) : Int)
theorem nK_b {M : Mt} (hM : qOk M) {d : Nat} : ∀ j, d + j ≤ qD M → 0 < nK M d j ∧ nK M d j ≤ 3 ^ j
  | 0, _ => ⟨by show (0 : Nat) < 1; omega, by show (1 : Nat) ≤ 3 ^ 0; decide⟩
  | j + 1, h => by
    obtain ⟨h1, h2⟩ := nK_b hM (d := d) j (by omega)
    have hA := hM.2.2.2.2.2.2.1 (d + j) (by omega)
    refine ⟨Nat.mul_pos h1 (by omega), ?_⟩
    show nK M d j * qA M (d + j) ≤ 3 ^ (j + 1)
    rw [Nat.pow_succ]
    exact Nat.mul_le_mul h2 hA.2
theorem nK_729 {M : Mt} (hM : qOk M) {d j : Nat} (h : d + j ≤ qD M) : nK M d j ≤ 729 := by
  have h1 := (nK_b hM j h).2
  have h2 : 3 ^ j ≤ 3 ^ 6 := Nat.pow_le_pow_right (by decide) (by have := hM.2.1; omega)
  exact Nat.le_trans h1 h2
theorem sK_ds {M : Mt} (hM : qOk M) (hE : qE M) {way c d : Nat} (hc : Ds M (qO M) d c) : ∀ j i, d + j ≤ qD M → i < nK M d j → Ds M (qO M) (d + j) (sK M way c d j i)
  | 0, _, _, _ => hc
  | j + 1, i, h, hi => by
    have hA := hM.2.2.2.2.2.2.1 (d + j) (by omega)
    have hq : i / qA M (d + j) < nK M d j := Nat.div_lt_of_lt_mul (by rw [Nat.mul_comm]; exact hi)
    have ih := sK_ds hM hE (way := way) hc j (i / qA M (d + j)) (by omega) hq
    have hdj : d + j < qD M := by omega
    have hmo : i % qA M (d + j) < qA M (d + j) := Nat.mod_lt _ (by omega)
    exact Ds_suc hM ih hdj hmo (nxW_suc hM hE ih.1)
theorem oW_s {M : Mt} {way : Nat} {mean : Bool} {g n c : Nat} (hn : 0 < n) (hnD : n ≤ qD M) : oW M way mean g n c = if mean then sumA (qA M (qD M - n)) (fun a => (qC M (qD M - n) a : Int) * oW M way mean g (n - 1) (nxW M way (n - 1) c (qD M - n) a)) else minA (qA M (qD M - n)) (fun a => oW M way mean g (n - 1) (nxW M way (n - 1) c (qD M - n) a)) := by
  obtain ⟨k, rfl⟩ : ∃ k, n = k + 1 := ⟨n - 1, by omega⟩
  rw [oW, Nat.add_sub_cancel]
/-- the mean, from any list on -/
theorem mean_K {M : Mt} (hM : qOk M) {way g c d : Nat} (hd : d ≤ qD M) : ∀ j, d + j ≤ qD M → sumA (nK M d j) (fun i => hK M d j i * oW M way true g (qD M - (d + j)) (sK M way c d j i)) = oW M way true g (qD M - d) c
  | 0, _ => by
    show sumA 1 _ = _
    rw [sumA_s]
    show 0 + 1 * oW M way true g (qD M - d) c = _
    omega
  | j + 1, h => by
    have hA := hM.2.2.2.2.2.2.1 (d + j) (by omega)
    rw [← mean_K hM hd j (by omega)]
    show sumA (nK M d j * qA M (d + j)) _ = _
    rw [sumA_rows]
    refine sumA_c (fun i hi => ?_)
    rw [oW_s (n := qD M - (d + j)) (by omega) (by omega), if_pos rfl, show qD M - (qD M - (d + j)) = d + j by omega, ← sumA_mul]
    refine sumA_c (fun a ha => ?_)
    have e1 : (i * qA M (d + j) + a) / qA M (d + j) = i := by rw [Nat.mul_comm, Nat.mul_add_div (by omega), Nat.div_eq_of_lt ha]; rfl
    have e2 : (i * qA M (d + j) + a) % qA M (d + j) = a := by rw [Nat.mul_comm, Nat.mul_add_mod, Nat.mod_eq_of_lt ha]
    rw [hK, sK, e1, e2, show qD M - (d + j) - 1 = qD M - (d + j + 1) by omega, show d + (j + 1) = d + j + 1 by omega, Int.mul_assoc]
theorem least_K {M : Mt} (hM : qOk M) {way g c d : Nat} (hd : d ≤ qD M) : ∀ j, d + j ≤ qD M → minA (nK M d j) (fun i => oW M way false g (qD M - (d + j)) (sK M way c d j i)) = oW M way false g (qD M - d) c
  | 0, _ => by
    show minA 1 _ = _
    rw [minA_1]
    rfl
  | j + 1, h => by
    have hA := hM.2.2.2.2.2.2.1 (d + j) (by omega)
    have hn := (nK_b hM (d := d) j (by omega)).1
    rw [← least_K hM hd j (by omega)]
    show minA (nK M d j * qA M (d + j)) _ = _
    rw [minA_rows (by omega) hn]
    have : (fun i => minA (qA M (d + j)) (fun a => oW M way false g (qD M - (d + (j + 1))) (sK M way c d (j + 1) (i * qA M (d + j) + a)))) = fun i => oW M way false g (qD M - (d + j)) (sK M way c d j i) := by
      funext i
      rw [oW_s (n := qD M - (d + j)) (by omega) (by omega), if_neg (by decide), show qD M - (qD M - (d + j)) = d + j by omega]
      have hcong : ∀ n, n ≤ qA M (d + j) → ∀ (f f' : Nat → Int), 0 < n → (∀ a, a < qA M (d + j) → f a = f' a) → minA n f = minA n f' := by
        intro n
        induction n with
        | zero => intro _ f f' hn0; omega
        | succ n ih =>
          intro hnA f f' _ hff
          rcases Nat.eq_zero_or_pos n with z | z
          · subst z
            rw [minA_1, minA_1, hff 0 (by omega)]
          · rw [minA_s, minA_s, ih (by omega) f f' z hff, hff n (by omega)]
      refine hcong _ (Nat.le_refl _) _ _ (by omega) (fun a ha => ?_)
      have e1 : (i * qA M (d + j) + a) / qA M (d + j) = i := by rw [Nat.mul_comm, Nat.mul_add_div (by omega), Nat.div_eq_of_lt ha]; rfl
      have e2 : (i * qA M (d + j) + a) % qA M (d + j) = a := by rw [Nat.mul_comm, Nat.mul_add_mod, Nat.mod_eq_of_lt ha]
      rw [sK, e1, e2, show qD M - (d + j) - 1 = qD M - (d + j + 1) by omega, show d + (j + 1) = d + j + 1 by omega]
    rw [this]
