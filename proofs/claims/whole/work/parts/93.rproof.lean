/-! THE REFERENCE: proof. -/
section RPROOF
variable {N : Nat} {M : Mt}
theorem tR_221 {x2 : Int32} {m : Mm} {c d i a b : Nat} (hM : qOk M) (hN : 1000000 ≤ N) (hX : CxR M d m) (hd : d + i < qD M) (ha : a < qA M (d + i)) (hk : qK M (d + i) a = 0) (hDs : Ds M (qO M) (d + i) c) (hb : b < 4) (K : Int32 → Int32 → Option (Int32 × Mm)) : f_Mo_proof_L221 N x2 (rz c) (nI i) (nI a) 0 (rz (c + 8 ^ (4 * qG M (d + i) a + b))) m K N 9 3 = K (nI b) (-1) := by
  have hD := hM.2.1
  have hs := (hM.2.2.2.2.2.2.2 _ a hd ha).2.2.1 hk
  have hrz : ∀ to, to < 4 → (rz (c + 8 ^ (4 * qG M (d + i) a + b)) = rz (c + 8 ^ (4 * qG M (d + i) a + to)) ↔ b = to) := by
    intro to ht
    have h7 : ∀ t, t < 4 → am c (qG M (d + i) a) t < 7 := fun t h4 => am7 hs h4 (by have := hDs.1.2.2.2.2; omega)
    constructor
    · intro e
      have h1 := (rz_inj (add_lt hDs.1.1 (by omega) (h7 b hb)) (add_lt hDs.1.1 (by omega) (h7 to ht))).mp e
      have h2 : 8 ^ (4 * qG M (d + i) a + b) = 8 ^ (4 * qG M (d + i) a + to) := by omega
      have h3 := (Nat.pow_right_inj (show 1 < 8 by decide)).mp h2
      omega
    · intro e; rw [e]
  have step : ∀ (to f : Nat) (z : Int32), to < 4 → f_Mo_proof_L221 N x2 (rz c) (nI i) (nI a) 0 (rz (c + 8 ^ (4 * qG M (d + i) a + b))) m K (f + 1) z (nI to) = f_Mo_proof_L221 N x2 (rz c) (nI i) (nI a) 0 (rz (c + 8 ^ (4 * qG M (d + i) a + b))) m K f (if b = to then nI to else z) (nI to + (-1)) := by
    intro to f z ht
    have eqT : qT M (d + i) a = nI (qG M (d + i) a) := by unfold qT; rw [if_neg (by omega)]
    rw [f_Mo_proof_L221, if_neg (nI_pos (by omega)), if_pos rfl, hX.2, nI_add, tR_alt2 hM hX.1 hd ha, b1_s, eqT, t_Mone hs ht, b1_s, rz_give hDs (Or.inl (by omega)) hs ht]
    by_cases q : b = to
    · rw [if_pos q, if_pos ((hrz to ht).mpr q)]
    · rw [if_neg q, if_neg (fun w => q ((hrz to ht).mp w))]
  obtain ⟨f, hf⟩ : ∃ f, N = f + 1 + 1 + 1 + 1 + 1 := ⟨N - 5, by omega⟩
  have go : f_Mo_proof_L221 N x2 (rz c) (nI i) (nI a) 0 (rz (c + 8 ^ (4 * qG M (d + i) a + b))) m K (f + 1 + 1 + 1 + 1 + 1) 9 (nI 3) = K (nI b) (-1) := by
    rw [step 3 _ _ (by omega), show nI 3 + (-1) = nI 2 by decide, step 2 _ _ (by omega), show nI 2 + (-1) = nI 1 by decide, step 1 _ _ (by omega), show nI 1 + (-1) = nI 0 by decide, step 0 _ _ (by omega), show nI 0 + (-1) = -1 by decide, f_Mo_proof_L221, if_pos (by decide)]
    congr 1
    rcases (by omega : b = 0 ∨ b = 1 ∨ b = 2 ∨ b = 3) with rfl | rfl | rfl | rfl <;> simp
  rw [← hf] at go
  exact go
theorem tR_proof (hM : qOk M) (hE : qE M) (hN : 1000000 ≤ N) {m : Mm} {g k c d : Nat} (hg : g < 3) (h15 : mI m 0 15 = 1) (hW : RW m M) (hR : RE m M) (hn : RNw m c d none) (hc : NW M c d none) (hk : k < qD M - d) : ∃ m', f_Mo_proof N (nI g) (nI k) m = some (nI (pan M g (psq M g c d k) (d + k)), m') ∧ RE m' M ∧ PS m m' := by
  have hO := hM.2.2.1
  have hB := hM.2.2.2.1
  have hD := hM.2.1
  have hDs : Ds M (qO M) d c := ⟨hc.1, hc.2.2.2.1, hc.2.2.1⟩
  obtain ⟨m1, G, A, e, hA, hF, hR', hP, h0⟩ := tR_solve hM hE hN (show qO M ≤ 3 by omega) (Nat.le_refl _) (mean := false) hg (show qB M < 3 by omega) hW hR hn hc
  rw [tf_f] at e
  have hn' := hP.rn hn
  have hW' := hP.rw hW
  have hX : CxR M d m1 := ⟨hW', hn'.2.1⟩
  have hls : d + (qD M - d) = qD M := by have := hc.2.1; omega
  have hin : ∀ j, j ≤ qD M - d → InG G j (psq M g c d j) := by
    intro j
    induction j with
    | zero => intro _; exact (h0 c).mpr rfl
    | succ j ih =>
      intro hj
      have hdj := Ds_psq hM hE (g := g) hDs j (by omega)
      obtain ⟨hs, _⟩ := Ds_pnx hM hE (g := g) (show d + j < qD M by omega) hdj
      exact hA.2.2.2.2.2 j _ _ _ (by omega) (ih (by omega)) (pal_lt hM (by omega)) hs
  have hsm : ∀ j, j < qD M - d → ∀ c', Ds M (qO M) (d + (j + 1)) c' → sm6 (pF M g (d + j) c') := fun j hj c' h => vS_sm hM hE (by omega) (by rw [show qD M - (qD M - (d + j + 1)) = d + (j + 1) by omega]; exact h)
  have hFj : ∀ j, j < qD M - d → WV m1 G (j + 1) (pF M g (d + j)) := fun j hj => by
    have := hF (j + 1) (by omega)
    rw [show qD M - d - (j + 1) = qD M - (d + j + 1) by omega] at this
    exact this
  obtain ⟨_, _, e9⟩ := loopE (fun n (_ : Unit) j => f_Mo_proof_L70 N (nI k) m1 (fun (z39_5 : Int64) (z39_7 : Int32) (z39_8 : Int32) => some (z39_7, m1)) n (rz (psq M g c d j)) (if j = 0 then -1 else nI (pan M g (psq M g c d (j - 1)) (d + (j - 1)))) (nI j)) (fun _ _ => True) (k + 1) (fun _ => some (nI (pan M g (psq M g c d k) (d + k)), m1)) (fun n _ j hj _ => by
    show ∃ x', _ ∧ f_Mo_proof_L70 N (nI k) m1 _ (n + 1) _ _ (nI j) = _
    refine ⟨(), trivial, ?_⟩
    have hd : d + j < qD M := by omega
    have hdj := Ds_psq hM hE (g := g) hDs j (by omega)
    have hAq := hM.2.2.2.2.2.2.1 _ hd
    have hpl := pal_lt hM (g := g) (c := psq M g c d j) hd
    have hq := hM.2.2.2.2.2.2.2 _ _ hd hpl
    have haf : ∀ a, a < qA M (d + j) → f_Mo_after N (rz (psq M g c d j)) (nI j) (nI a) (nI (qO M)) m1 = some (lz (aft M (qO M) (pF M g (d + j)) (psq M g c d j) (d + j) a)) := fun a ha => tR_after hM hE hN (by omega) hls hA hX (by omega) (hin j (by omega)) hdj ha (hFj j (by omega)) (hsm j (by omega))
    have hasm : ∀ a, a < qA M (d + j) → sm6 (aft M (qO M) (pF M g (d + j)) (psq M g c d j) (d + j) a) := fun a ha => aK_sm (g := g) (k := 0) hM hE hd hdj ha
    have l82 : ∀ (K : Int32 → Int32 → Option (Int32 × Mm)), f_Mo_proof_L82 N (nI k) (rz (psq M g c d j)) (nI j) m1 K N 0 1 = K (nI (pal M g (psq M g c d j) (d + j))) (nI (qA M (d + j))) := by
      intro K
      refine loopI (fun n (l : Nat) a => f_Mo_proof_L82 N (nI k) (rz (psq M g c d j)) (nI j) m1 K n (nI l) (nI a)) (fun l a => l < a) (fun l a => if aft M (qO M) (pF M g (d + j)) (psq M g c d j) (d + j) l ≤ aft M (qO M) (pF M g (d + j)) (psq M g c d j) (d + j) a then l else a) (qA M (d + j)) (fun l => K (nI l) (nI (qA M (d + j)))) (fun n l a ha hl => ?_) (fun l a ha hl => ?_) (fun n l hl => ?_) (qA M (d + j) - 1) N 0 1 (by omega) (by omega) (by omega)
      · show f_Mo_proof_L82 N (nI k) (rz (psq M g c d j)) (nI j) m1 K (n + 1) (nI l) (nI a) = _
        rw [f_Mo_proof_L82, hX.2, nI_add, ck_t (nI_in (show d + j < 6 by omega) (by omega)), nI_clamp (show d + j < 2 ^ 31 by omega), hW'.2.2.2.2.2.1 _ hd, if_neg (nI_ge ha (by omega)), hW'.2.2.1, haf a ha, b1_s, haf l (by omega), b1_s, nI_1]
        by_cases q : aft M (qO M) (pF M g (d + j)) (psq M g c d j) (d + j) l ≤ aft M (qO M) (pF M g (d + j)) (psq M g c d j) (d + j) a
        · rw [if_pos q, if_pos ((lz_le (hasm l (by omega)) (hasm a ha)).mpr q)]
        · rw [if_neg q, if_neg (fun w => q ((lz_le (hasm l (by omega)) (hasm a ha)).mp w))]
      · show (if _ then l else a) < a + 1
        split <;> omega
      · show f_Mo_proof_L82 N (nI k) (rz (psq M g c d j)) (nI j) m1 K (n + 1) (nI l) (nI (qA M (d + j))) = _
        rw [f_Mo_proof_L82, hX.2, nI_add, ck_t (nI_in (show d + j < 6 by omega) (by omega)), nI_clamp (show d + j < 2 ^ 31 by omega), hW'.2.2.2.2.2.1 _ hd, if_pos (nI_le (Nat.le_refl _) (by omega))]
    have hsq : psq M g c d (j + 1) = pnx M g (psq M g c d j) (d + j) := rfl
    have e10 : (10 : Int32) * nI (pal M g (psq M g c d j) (d + j)) = nI (10 * pal M g (psq M g c d j) (d + j)) := pk_mul 10 _
    have ejp : (if j + 1 = 0 then -1 else nI (pan M g (psq M g c d (j + 1 - 1)) (d + (j + 1 - 1)))) = nI (pan M g (psq M g c d j) (d + j)) := by
      rw [if_neg (by omega), Nat.add_sub_cancel]
    rw [f_Mo_proof_L70, if_neg (nI_nlt (by omega) (by omega)), l82, hX.2, nI_add, tR_alt1 hM hW' hd hpl, b1_s]
    simp only [jn]
    by_cases k0 : qK M (d + j) (pal M g (psq M g c d j) (d + j)) = 0
    · obtain ⟨b, g1, g2⟩ := tR_given hM hE hN (by omega) hls hA hX (show j < qD M - d by omega) (hin j (by omega)) hdj hpl k0 (hFj j (by omega)) (hsm j (by omega))
      have hb : b = pgi M g (psq M g c d j) (d + j) := Option.some.inj (g1.symm.trans (pgi_is hM hE hdj.1))
      obtain ⟨b4', _, _, _⟩ := amx_some g1
      have e11 : pnx M g (psq M g c d j) (d + j) = psq M g c d j + 8 ^ (4 * qG M (d + j) (pal M g (psq M g c d j) (d + j)) + b) := by unfold pnx; rw [if_pos k0, hb]
      have e12 : pan M g (psq M g c d j) (d + j) = 10 * pal M g (psq M g c d j) (d + j) + b := by unfold pan; rw [if_pos k0, hb]
      rw [if_pos ((nI_k0 hq.2.1).mpr k0), hW'.2.2.1, g2, b1_s, show nI (qK M (d + j) (pal M g (psq M g c d j) (d + j))) = 0 from (nI_k0 hq.2.1).mpr k0, tR_221 hM hN hX hd hpl k0 hdj b4', nI_1, e10, nI_add, ejp, hsq, e11, e12]
    · have e11 : pnx M g (psq M g c d j) (d + j) = pas M (psq M g c d j) (d + j) (pal M g (psq M g c d j) (d + j)) := by unfold pnx; rw [if_neg k0]
      have e12 : pan M g (psq M g c d j) (d + j) = 10 * pal M g (psq M g c d j) (d + j) + 9 := by unfold pan; rw [if_neg k0]
      have hz : ¬ nI (qK M (d + j) (pal M g (psq M g c d j) (d + j))) = 0 := fun w => k0 ((nI_k0 hq.2.1).mp w)
      have l221 : ∀ (s16 : Int64) (K : Int32 → Int32 → Option (Int32 × Mm)), f_Mo_proof_L221 N (nI k) (rz (psq M g c d j)) (nI j) (nI (pal M g (psq M g c d j) (d + j))) (nI (qK M (d + j) (pal M g (psq M g c d j) (d + j)))) s16 m1 K N 9 3 = K 9 3 := by
        intro s16 K
        obtain ⟨q, hq2⟩ : ∃ q, N = q + 1 := ⟨N - 1, by omega⟩
        conv => lhs; arg 10; rw [hq2]
        rw [f_Mo_proof_L221, if_neg (by decide), if_neg hz]
      rw [if_neg hz]
      by_cases k1 : qK M (d + j) (pal M g (psq M g c d j) (d + j)) = 1
      · have hgq := hq.2.2.2 k1
        have hH := hM.1
        have er : rz (psq M g c d j) ||| lsl 1 (36 + qT M (d + j) (pal M g (psq M g c d j) (d + j))) = rz (pas M (psq M g c d j) (d + j) (pal M g (psq M g c d j) (d + j))) := by
          unfold qT pas
          rw [if_neg (by omega), if_pos k1, show (36 : Int32) + nI (qG M (d + j) (pal M g (psq M g c d j) (d + j))) = nI (36 + qG M (d + j) (pal M g (psq M g c d j) (d + j))) from by rw [show (36 : Int32) = nI 36 from rfl, nI_add], show (1 : Int64) = lN 1 from rfl, lsl_n 1 (by omega), Nat.one_mul, rz_or (by omega)]
        rw [if_pos ((nI_k1 hq.2.1).mpr k1), tR_alt2 hM hW' hd hpl, b1_s, er, l221, nI_1, e10, show (9 : Int32) = nI 9 from rfl, nI_add, ejp, hsq, e11, e12]
      · have er : pas M (psq M g c d j) (d + j) (pal M g (psq M g c d j) (d + j)) = psq M g c d j := by unfold pas; rw [if_neg k1]
        rw [if_neg (fun w => k1 ((nI_k1 hq.2.1).mp w)), l221, nI_1, e10, show (9 : Int32) = nI 9 from rfl, nI_add, ejp, hsq, e11, e12, er]) (fun n _ _ => by
    show f_Mo_proof_L70 N (nI k) m1 _ (n + 1) _ _ (nI (k + 1)) = _
    rw [f_Mo_proof_L70, if_pos (nI_lt (by omega) (by omega)), if_neg (by omega), Nat.add_sub_cancel]) (k + 1) N () 0 (by omega) (by omega) trivial
  refine ⟨m1, ?_, hR', hP⟩
  unfold f_Mo_proof
  have e1m : nI (qD M) - nI d - 1 = nI (qD M - d - 1) := by
    rw [pk_sub hc.2.1]
    obtain ⟨q, hq⟩ : ∃ q, qD M - d = q + 1 := ⟨qD M - d - 1, by omega⟩
    rw [hq, nI_pred, Nat.add_sub_cancel]
  rw [h15, if_neg (by decide), hn.2.2, if_pos (show zOpt none = -1 from rfl), tR_isGoal hg, b1_s, if_neg (by decide), hW.2.1, hn.2.1, e1m]
  have ein : f_Mo_in N (nI k) 0 (nI (qD M - d - 1)) = some 1 := by
    rw [show (0 : Int32) = nI 0 from rfl, tR_in (by omega) (by omega) (by omega)]
    simp [show k ≤ qD M - d - 1 by omega, tf]
  rw [ein, b1_s, if_neg (by decide), hW.2.2.1, hW.2.2.2.1, e, b2_s, hn'.1]
  exact e9
end RPROOF
