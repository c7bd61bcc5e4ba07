/-! THE REFERENCE: what is asked of NOW. -/
theorem minus_lz (a b : Int) : lz a - lz b = lz (a - b) := (Int64.ofInt_sub a b).symm
/-- a told value -/
def tld (mean : Bool) (v : Int) (ls : Nat) : Int32 := if mean then ((lz v * 1000) / lN (12 ^ ls)).toInt32 else iz v
theorem p12 {ls : Nat} (h : ls ≤ 6) : 0 < 12 ^ ls ∧ 12 ^ ls ≤ 2985984 := by
  rcases (by omega : ls = 0 ∨ ls = 1 ∨ ls = 2 ∨ ls = 3 ∨ ls = 4 ∨ ls = 5 ∨ ls = 6) with rfl | rfl | rfl | rfl | rfl | rfl | rfl <;> decide
theorem lN_0 {n : Nat} (h : 0 < n) (h2 : n < 2 ^ 62) : ¬ lN n = 0 := by
  intro e
  have := (pk_lEQ (a := n) (b := 0) (by omega) (by omega)).mp e
  omega
/-- NOW of the matter: a state, the days over, what waits -/
def NW (M : Mt) (c d : Nat) (w : Option Nat) : Prop := Lg M c ∧ d ≤ qD M ∧ hl c ≤ qO M ∧ tt c ≤ d ∧ ∀ s, w = some s → s < 3 ∧ tt c < d
/-- the reference has it so -/
def RNw (m : Mm) (c d : Nat) (w : Option Nat) : Prop := mJ m 0 23 = rz c ∧ mI m 0 24 = nI d ∧ mI m 0 25 = zOpt w
theorem PS.rn {m m' : Mm} {c d : Nat} {w : Option Nat} (h : PS m m') (hn : RNw m c d w) : RNw m' c d w := by
  have e1 := h.1 0 24 (by omega)
  have e2 := h.1 0 25 (by omega)
  have e3 := h.2.1
  unfold RNw mJ mI at *
  rw [e1, e2, e3]
  exact hn
theorem PS.rw {m m' : Mm} {M : Mt} (h : PS m m') (hw : RW m M) : RW m' M := RW_of (fun k hk => h.1 0 k (by omega)) (fun a ha => h.2.2.1 a (by omega) (by omega) (by omega) (by omega)) hw
section RASK
variable {N : Nat} {M : Mt} {m : Mm} {c d : Nat} {w : Option Nat}
theorem tR_told (hM : qOk M) (hN : 1000000 ≤ N) (hW : RW m M) (hn : RNw m c d w) (hd : d ≤ qD M) {mean : Bool} {v : Int} : f_Mo_told N (lz v) (tf mean) m = some (tld mean v (qD M - d)) := by
  have hD := hM.2.1
  unfold f_Mo_told tld
  cases mean with
  | false =>
    rw [if_pos tf_f, if_neg (by decide), lz_i]
  | true =>
    rw [if_neg (by rw [tf_t]; decide), if_pos rfl, hn.2.1]
    have := loopF (fun n (x : Nat) j => f_Mo_told_L16 N (lz v) m (fun (z3_4 : Int64) (z3_6 : Int32) => ck (¬ z3_4 = 0) (some (((((lz v * 1000)) / z3_4)).toInt32))) n (lN x) (nI j)) (fun x _ => x * 12) (qD M) (fun x => ck (¬ lN x = 0) (some (((((lz v * 1000)) / lN x)).toInt32))) (fun n x j hj => by
      show f_Mo_told_L16 N (lz v) m _ (n + 1) (lN x) (nI j) = _
      rw [f_Mo_told_L16, hW.2.1, if_neg (nI_ge hj (by omega)), nI_1, show (12 : Int64) = lN 12 from rfl, lN_mul]) (fun n x => by
      show f_Mo_told_L16 N (lz v) m _ (n + 1) (lN x) (nI (qD M)) = _
      rw [f_Mo_told_L16, hW.2.1, if_pos (nI_le (Nat.le_refl _) (by omega))]) (qD M - d) N 1 d (by omega) (by omega)
    refine this.trans ?_
    have e : ∀ k j a, fo (fun (x : Nat) (_ : Nat) => x * 12) a j k = a * 12 ^ k := by
      intro k
      induction k with
      | zero => intro j a; simp [fo]
      | succ k ih =>
        intro j a
        rw [fo, ih, Nat.pow_succ, Nat.mul_assoc, Nat.mul_comm 12]
    rw [e, Nat.one_mul]
    have h12 := p12 (ls := qD M - d) (by omega)
    rw [ck_t (lN_0 h12.1 (by omega))]
theorem tR_isGoal {g : Nat} (hg : g < 3) : f_Mo_isGoal N (nI g) = some 1 := by
  unfold f_Mo_isGoal
  rw [show (0 : Int32) = nI 0 from rfl, show (2 : Int32) = nI 2 from rfl, tR_in (by omega) (by omega) (by omega), b1_s]
  simp [show g ≤ 2 by omega, tf]
  exact ck_t trivial
/-- NOW solved, as it is asked -/
theorem tR_solve (hM : qOk M) (hE : qE M) (hN : 1000000 ≤ N) {ho : Nat} (h3 : ho ≤ 3) (hho : qO M ≤ ho) {mean : Bool} {g b : Nat} (hg : g < 3) (hb : b < 3) (hW : RW m M) (hR : RE m M) (hn : RNw m c d w) (hc : NW M c d w) : ∃ m' G A, f_Mo_solved N (nI g) (tf mean) (nI ho) (nI b) m = some (lz (vNow M mean ho g b (qD M - d) c w), m') ∧ LA M ho d (qD M - d) m' G A ∧ (∀ i', i' ≤ qD M - d → WV m' G i' (vS M mean ho g b (qD M - d - i'))) ∧ RE m' M ∧ PS m m' ∧ ∀ c', InG G 0 c' ↔ St0 M ho c w c' :=
  tR_solved hM hE hN h3 hg hb hc.2.1 hc.1 hc.2.2.2.1 (Nat.le_trans hc.2.2.1 hho) hc.2.2.2.2 hn.1 hn.2.2 ⟨hW, hn.2.1⟩ hR
theorem tR_sure (hM : qOk M) (hE : qE M) (hN : 1000000 ≤ N) {mean : Bool} {g : Nat} (hg : g < 3) (h15 : mI m 0 15 = 1) (hW : RW m M) (hR : RE m M) (hn : RNw m c d w) (hc : NW M c d w) : ∃ m', f_Mo_sure N (nI g) (tf mean) m = some (tld mean (vNow M mean (qO M) g (qB M) (qD M - d) c w) (qD M - d), m') ∧ RE m' M ∧ PS m m' := by
  have hO := hM.2.2.1
  have hB := hM.2.2.2.1
  obtain ⟨m', G, A, e, _, _, hR', hP, _⟩ := tR_solve hM hE hN (show qO M ≤ 3 by omega) (Nat.le_refl _) (mean := mean) hg (show qB M < 3 by omega) hW hR hn hc
  refine ⟨m', ?_, hR', hP⟩
  unfold f_Mo_sure
  rw [h15, if_neg (by decide), tR_isGoal hg, b1_s, if_neg (by decide), hW.2.2.1, hW.2.2.2.1, e, b2_s, tR_told hM hN (hP.rw hW) (hP.rn hn) hc.2.1, b1_s]
theorem tR_mended (hM : qOk M) (hE : qE M) (hN : 1000000 ≤ N) {g k : Nat} (hg : g < 3) (hk : k < 2) (h15 : mI m 0 15 = 1) (hW : RW m M) (hR : RE m M) (hn : RNw m c d w) (hc : NW M c d w) : ∃ m', f_Mo_mended N (nI g) (nI k) m = some ((lz (vNow M false (kho M (k + 2)) g (kbk M (k + 2)) (qD M - d) c w - vNow M false (qO M) g (qB M) (qD M - d) c w)).toInt32, m') ∧ RE m' M ∧ PS m m' := by
  have hO := hM.2.2.1
  have hB := hM.2.2.2.1
  obtain ⟨m1, G, A, e, _, _, hR', hP, _⟩ := tR_solve hM hE hN (show qO M ≤ 3 by omega) (Nat.le_refl _) (mean := false) hg (show qB M < 3 by omega) hW hR hn hc
  have hW1 := hP.rw hW
  obtain ⟨m2, G2, A2, e2, _, _, hR2, hP2, _⟩ := tR_solve hM hE hN (kho_le hM (k + 2)) (show qO M ≤ kho M (k + 2) by unfold kho; split <;> omega) (mean := false) hg (kbk_lt hM (k + 2)) hW1 hR' (hP.rn hn) hc
  refine ⟨m2, ?_, hR2, hP.trans hP2⟩
  rw [tf_f] at e e2
  unfold f_Mo_mended
  rw [h15, if_neg (by decide), tR_isGoal hg, b1_s, if_neg (by decide), show (0 : Int32) = nI 0 from rfl, show (1 : Int32) = nI 1 from rfl, tR_in (by omega) (by omega) (by omega), b1_s, if_neg (by simp [show k ≤ 1 by omega, tf, nI]), hW.2.2.1, hW.2.2.2.1]
  rw [show nI 0 = 0 from rfl, e, b2_s]
  simp only [jn]
  rw [hW1.2.2.1, hW1.2.2.2.1]
  by_cases k0 : k = 0
  · subst k0
    rw [if_pos (show nI 0 = 0 from rfl), if_neg (show ¬ nI 0 = nI 1 by decide), show nI 1 = 1 from rfl, nI_1]
    have e1 : kho M (0 + 2) = qO M + 1 := by unfold kho; rw [if_pos rfl]
    have e3 : kbk M (0 + 2) = qB M := by unfold kbk; rw [if_neg (by omega)]
    rw [e1, e3] at e2 ⊢
    rw [e2, b2_s, minus_lz]
  · have : k = 1 := by omega
    subst this
    rw [if_neg (show ¬ nI 1 = 0 by decide), if_pos rfl, show nI 1 = 1 from rfl, nI_1]
    have e1 : kho M (1 + 2) = qO M := by unfold kho; rw [if_neg (by omega)]
    have e3 : kbk M (1 + 2) = qB M + 1 := by unfold kbk; rw [if_pos rfl]
    rw [e1, e3] at e2 ⊢
    rw [e2, b2_s, minus_lz]
theorem tR_reached (hM : qOk M) (hE : qE M) (hN : 1000000 ≤ N) {g : Nat} (hg : g < 3) (h15 : mI m 0 15 = 1) (hW : RW m M) (hR : RE m M) (hn : RNw m c (qD M) none) (hc : NW M c (qD M) none) : ∃ m', f_Mo_reached N (nI g) m = some (iz (gE M g (qB M) c), m') ∧ RE m' M ∧ PS m m' := by
  have hO := hM.2.2.1
  have hB := hM.2.2.2.1
  obtain ⟨m', e1, e2, e3⟩ := tR_ends hM hE hW hR hN hc.1 (by have := hc.2.2.1; omega) hg (show qB M < 3 by omega)
  refine ⟨m', ?_, e3, e2.ps⟩
  unfold f_Mo_reached
  rw [h15, if_neg (by decide), tR_isGoal hg, b1_s, if_neg (by decide), hn.2.2, if_pos (show zOpt none = -1 from rfl), hn.2.1, hW.2.1, if_pos rfl, hn.1, hW.2.2.2.1, e1, b2_s]
/-- the gift that is best -/
theorem tR_best2 (hM : qOk M) (hE : qE M) (hN : 1000000 ≤ N) {mean : Bool} {g s : Nat} (hg : g < 3) (hW : RW m M) (hR : RE m M) (hn : RNw m c d (some s)) (hc : NW M c d (some s)) : ∃ m' b, f_Mo_best N (nI g) (tf mean) m = some (nI b, m') ∧ amx (fun to => may M c to (qO M)) (fun to => vS M mean (qO M) g (qB M) (qD M - d) (c + 8 ^ (4 * s + to))) 4 = some b ∧ RE m' M ∧ PS m m' := by
  have hO := hM.2.2.1
  have hB := hM.2.2.2.1
  have hD := hM.2.1
  obtain ⟨hs, htt⟩ := hc.2.2.2.2 s rfl
  obtain ⟨m', G, A, e, hA, hF, hR', hP, h0⟩ := tR_solve hM hE hN (show qO M ≤ 3 by omega) (Nat.le_refl _) (mean := mean) hg (show qB M < 3 by omega) hW hR hn hc
  have hn' := hP.rn hn
  have hW' := hP.rw hW
  have hls : d + (qD M - d) = qD M := by have := hc.2.1; omega
  cases e2 : amx (fun to => may M c to (qO M)) (fun to => vS M mean (qO M) g (qB M) (qD M - d) (c + 8 ^ (4 * s + to))) 4 with
  | none =>
    obtain ⟨x, hx⟩ := gif_some hM hE (ho := qO M) (s := s) (F := vS M mean (qO M) g (qB M) (qD M - d)) hc.1
    have : mxo (fun to => may M c to (qO M)) (fun to => vS M mean (qO M) g (qB M) (qD M - d) (c + 8 ^ (4 * s + to))) 4 = some x := hx
    rw [amx_none e2] at this
    cases this
  | some b =>
    obtain ⟨a1, a2, a3, a4⟩ := amx_some e2
    have hv : vNow M mean (qO M) g (qB M) (qD M - d) c (some s) = vS M mean (qO M) g (qB M) (qD M - d) (c + 8 ^ (4 * s + b)) := gif_amx e2
    have hsm : ∀ to, to < 4 → may M c to (qO M) = true → sm6 (vS M mean (qO M) g (qB M) (qD M - d) (c + 8 ^ (4 * s + to))) := fun to h4 hm => vS_sm hM hE (by omega) (by
      rw [show qD M - (qD M - d) = d by have := hc.2.1; omega]
      exact Ds_give hc.1 htt (by have := hc.2.1; omega) hc.2.2.1 hs h4 hm)
    refine ⟨m', b, ?_, rfl, hR', hP⟩
    unfold f_Mo_best
    rw [hn.2.2, if_neg (show ¬ zOpt (some s) = -1 from nI_m1 (by omega)), tR_isGoal hg, b1_s, if_neg (by decide), hW.2.2.1, hW.2.2.2.1, e, b2_s, hv]
    refine loopP (fun n (_ : Unit) to => f_Mo_best_L35 N (lz (vS M mean (qO M) g (qB M) (qD M - d) (c + 8 ^ (4 * s + b)))) m' (fun (z11_5 : Int32) => some ((-1), m')) n (nI to)) (fun _ to => to ≤ b) (fun o => o = some (nI b, m')) 4 (fun n _ to ht hI => ?_) (fun n _ hI => by omega) 4 N () 0 (by omega) (by omega) (Nat.zero_le _)
    show f_Mo_best_L35 N _ m' _ (n + 1) (nI to) = some (nI b, m') ∨ ∃ x', _ ∧ f_Mo_best_L35 N _ m' _ (n + 1) (nI to) = _
    rw [f_Mo_best_L35, if_neg (n3lt ht), hn'.1, hW'.2.2.1, tR_mayGive hM hc.1.2.1 ht (by omega), b1_s]
    cases e1 : may M c to (qO M)
    · refine Or.inr ⟨(), ?_, by rw [if_pos (by simp [tf]), nI_1]⟩
      by_cases q : to = b
      · rw [q, a2] at e1; cases e1
      · omega
    · have hin : InG G 0 (c + 8 ^ (4 * s + to)) := (h0 _).mpr ⟨to, ht, e1, rfl⟩
      rw [if_neg (by simp [tf]), hn'.2.2, show zOpt (some s) = nI s from rfl, t_Mone hs ht, b1_s, rz_add hc.1.1 hs ht (am7 hs ht (by have := hc.2.1; omega)), show (0 : Int32) = nI 0 from rfl, tR_valueOf hM hE hN hls hA (Nat.zero_le _) hin (hF 0 (Nat.zero_le _)), b1_s, Nat.sub_zero]
      by_cases q : to = b
      · rw [q, if_pos rfl]
        exact Or.inl rfl
      · refine Or.inr ⟨(), by omega, ?_⟩
        have hlt := a4 to (by omega) e1
        rw [if_neg (fun w => by have := (lz_eq (hsm to ht e1) (hsm b a1 a2)).mp w; omega), nI_1]
end RASK
