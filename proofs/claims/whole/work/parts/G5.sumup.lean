/-! MAKING: places summed up. -/
section SUMUP
variable {N : Nat} {S : St}
theorem t_sumUp (hN : 100000 ≤ N) {x1 x2 x3 : Nat} (d1 : x1 ≠ 20) (d2 : x2 ≠ 20 ∧ x2 ≠ x1) (d3 : x3 ≠ 20 ∧ x3 ≠ x1 ∧ x3 ≠ x2) (l0 : S.2.2.1 20 = 210) (l1 : S.2.2.1 x1 = 7) (l2 : S.2.2.1 x2 = 1470) (l3 : S.2.2.1 x3 = 7) {m : Mm} {G : Nat → Nat} (hs : ∀ n, n < 210 → mX m 20 n = nI (sO n)) (hin : ∀ j, j < 7 → mX m x1 j = nI (G j)) : ∃ m', f_Ranks_sumUp N S 20 x1 x2 x3 m = some m' ∧ Fx [x2, x3] m m' ∧ (∀ K b, K < 7 → b < upF K → mX m' x2 (K * 210 + b) = nI (psu (fun i => G (K - sO i)) b)) ∧ ∀ K, K < 7 → mX m' x3 K = nI (psu (fun i => G (K - sO i)) (upF K)) := by
  have n20 : 20 ∉ [x2, x3] := by simp; omega
  have nx1 : x1 ∉ [x2, x3] := by simp; omega
  have inner : ∀ (K : Nat) (y : Mm) (KK : Int32 → Int32 → Mm → Option Mm), K < 7 → Fx [x2, x3] m y → ∃ y', f_Ranks_sumUp_L16 N S 20 x1 x2 x3 (nI K) KK N (nI 0) (nI 0) y = KK (nI (psu (fun i => G (K - sO i)) (upF K))) (nI (upF K)) y' ∧ Fx [x2, x3] m y' ∧ (∀ b, b < upF K → mX y' x2 (K * 210 + b) = nI (psu (fun i => G (K - sO i)) b)) ∧ (∀ i, ¬ (K * 210 ≤ i ∧ i < K * 210 + 210) → mX y' x2 i = mX y x2 i) ∧ ∀ i, mX y' x3 i = mX y x3 i := by
    intro K y KK hK hF
    have hu := upF_210 K hK
    obtain ⟨y', ⟨i1, i2, i3, i4⟩, e⟩ := loopE (fun f (z : Mm) b => f_Ranks_sumUp_L16 N S 20 x1 x2 x3 (nI K) KK f (nI (psu (fun i => G (K - sO i)) b)) (nI b) z) (fun z b => Fx [x2, x3] m z ∧ (∀ b', b' < b → mX z x2 (K * 210 + b') = nI (psu (fun i => G (K - sO i)) b')) ∧ (∀ i, ¬ (K * 210 ≤ i ∧ i < K * 210 + 210) → mX z x2 i = mX y x2 i) ∧ ∀ i, mX z x3 i = mX y x3 i) (upF K) (fun z => KK (nI (psu (fun i => G (K - sO i)) (upF K))) (nI (upF K)) z) (fun f z b hb hJ => by
      show ∃ z', _ ∧ f_Ranks_sumUp_L16 N S 20 x1 x2 x3 (nI K) KK (f + 1) (nI (psu (fun i => G (K - sO i)) b)) (nI b) z = _
      obtain ⟨i1, i2, i3, i4⟩ := hJ
      have hso : sO b ≤ K := (upF_v b (by omega) K hK).mpr hb
      have e20 : mX z 20 b = nI (sO b) := (i1.x n20 b).trans (hs b (by omega))
      have hi0 : ix (nI b) (S.2.2.1 20) := by rw [l0]; exact nI_in (by omega) (by omega)
      have hi2 : ix (nI (K * 210 + b)) (S.2.2.1 x2) := by rw [l2]; exact nI_in (by omega) (by omega)
      have hi1 : ix (nI (K - sO b)) (S.2.2.1 x1) := by rw [l1]; exact nI_in (by omega) (by omega)
      have e20' : mX (vX z x2 (K * 210 + b) (nI (psu (fun i => G (K - sO i)) b))) 20 b = nI (sO b) := (mX_n (by omega)).trans e20
      have ex1 : mX (vX z x2 (K * 210 + b) (nI (psu (fun i => G (K - sO i)) b))) x1 (K - sO b) = nI (G (K - sO b)) := (mX_n (by omega)).trans ((i1.x nx1 _).trans (hin _ (by omega)))
      refine ⟨vX z x2 (K * 210 + b) (nI (psu (fun i => G (K - sO i)) b)), ⟨i1.trans (Fx_x (by simp)), fun b' hb' => ?_, fun i hi => ?_, fun i => ?_⟩, ?_⟩
      · by_cases q : b' = b
        · rw [q, mX_s]
        · rw [mX_n (by omega)]; exact i2 b' (by omega)
      · rw [mX_n (by omega)]; exact i3 i hi
      · rw [mX_n (by omega)]; exact i4 i
      · rw [f_Ranks_sumUp_L16, if_neg (show ¬ (210 : Int32) ≤ nI b from nI_ge (b := 210) (by omega) (by omega))]
        simp only [ck_t hi0, nI_clamp (show b < 2 ^ 31 by omega)]
        rw [e20, if_neg (nI_nlt (by omega) (by omega)), show (210 : Int32) = nI 210 from rfl, pk_mul, nI_add]
        simp only [ck_t hi2, nI_clamp (show K * 210 + b < 2 ^ 31 by omega)]
        rw [e20', pk_sub hso]
        simp only [ck_t hi1, nI_clamp (show K - sO b < 2 ^ 31 by omega)]
        rw [ex1, nI_add, nI_1]
        rfl) (fun f z hJ => by
      show f_Ranks_sumUp_L16 N S 20 x1 x2 x3 (nI K) KK (f + 1) _ (nI (upF K)) z = _
      rw [f_Ranks_sumUp_L16]
      by_cases q : upF K = 210
      · rw [if_pos (show (210 : Int32) ≤ nI (upF K) by rw [q]; decide)]
      · have hlt : upF K < 210 := by omega
        have hi0 : ix (nI (upF K)) (S.2.2.1 20) := by rw [l0]; exact nI_in hlt (by omega)
        have hso := hu.2 hlt
        have h7 : sO (upF K) < 2 ^ 31 := by unfold sO; split <;> (try split) <;> (try split) <;> (try split) <;> (try split) <;> (try split) <;> omega
        rw [if_neg (show ¬ (210 : Int32) ≤ nI (upF K) from nI_ge (b := 210) hlt (by omega))]
        simp only [ck_t hi0, nI_clamp (show upF K < 2 ^ 31 by omega)]
        rw [(hJ.1.x n20 _).trans (hs _ hlt), if_pos (nI_lt hso h7)]) (upF K) N y 0 (by omega) (by omega) ⟨hF, fun b' hb' => by omega, fun _ _ => rfl, fun _ => rfl⟩
    exact ⟨y', e, i1, i2, i3, i4⟩
  unfold f_Ranks_sumUp
  obtain ⟨m', ⟨i1, i2, i3⟩, e⟩ := loopE (fun f (y : Mm) K => f_Ranks_sumUp_L3 N S 20 x1 x2 x3 (fun (z17_4 : Int32) (m17 : Mm) => some m17) f (nI K) y) (fun y K => Fx [x2, x3] m y ∧ (∀ K' b, K' < K → b < upF K' → mX y x2 (K' * 210 + b) = nI (psu (fun i => G (K' - sO i)) b)) ∧ ∀ K', K' < K → mX y x3 K' = nI (psu (fun i => G (K' - sO i)) (upF K'))) 7 (fun y => some y) (fun f y K hK hJ => by
    show ∃ y', _ ∧ f_Ranks_sumUp_L3 N S 20 x1 x2 x3 _ (f + 1) (nI K) y = _
    obtain ⟨i1, i2, i3⟩ := hJ
    obtain ⟨y', k1, k2, k3, k4, k5⟩ := inner K y (fun (z8_5 : Int32) (z8_6 : Int32) (m8 : Mm) => ck (ix (nI K) (S.2.2.1 x3)) (f_Ranks_sumUp_L3 N S 20 x1 x2 x3 (fun (z17_4 : Int32) (m17 : Mm) => some m17) f ((nI K + 1)) ((vX m8 x3 (nI K).toNatClampNeg z8_5)))) hK i1
    have hix : ix (nI K) (S.2.2.1 x3) := by rw [l3]; exact nI_in hK (by omega)
    refine ⟨vX y' x3 K (nI (psu (fun i => G (K - sO i)) (upF K))), ⟨k2.trans (Fx_x (by simp)), fun K' b hK' hb => ?_, fun K' hK' => ?_⟩, ?_⟩
    · rw [mX_n (by omega)]
      by_cases q : K' = K
      · subst q; exact k3 b hb
      · have hu := (upF_210 K' (by omega)).1
        rw [k4 _ (by omega)]; exact i2 K' b (by omega) hb
    · by_cases q : K' = K
      · rw [q, mX_s]
      · rw [mX_n (by omega), k5]; exact i3 K' (by omega)
    · rw [f_Ranks_sumUp_L3, if_neg (show ¬ (6 : Int32) < nI K from nI_nlt (a := 6) (by omega) (by omega))]
      refine Eq.trans k1 ?_
      simp only [ck_t hix, nI_clamp (show K < 2 ^ 31 by omega)]
      rw [nI_1]) (fun f y hJ => by
    show f_Ranks_sumUp_L3 N S 20 x1 x2 x3 _ (f + 1) (nI 7) y = _
    rw [f_Ranks_sumUp_L3, if_pos (show (6 : Int32) < nI 7 by decide)]) 7 N m 0 (by omega) (by omega) ⟨Fx.refl, fun K' b hK' => by omega, fun K' hK' => by omega⟩
  exact ⟨m', e, i1, i2, i3⟩
end SUMUP
