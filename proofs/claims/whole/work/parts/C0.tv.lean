/-! KNOWN: the groups of a trace: who was there then is there at its end. -/
def Tv (M : Mt) (t c : Nat) : Prop := ∀ a, a < 12 → 0 < dg t a → ∃ w, w < 8 ∧ wOk (qH M) (qL M) w = true ∧ lmF (qH M) (qL M) w = a % 4 ∧ ∀ to, to < 3 → w / 2 ^ to % 2 = 1 → cb c to = true
section TV
variable {M : Mt}
theorem Tv_sub {t c a : Nat} (h0 : 0 < dg t a) (h : Tv M t c) : Tv M (t - 8 ^ a) c := by
  intro a' ha' hp
  rw [dg_sub h0] at hp
  exact h a' ha' (by omega)
theorem Tv_c {t c c' : Nat} (e : dg c' 12 = dg c 12) (h : Tv M t c) : Tv M t c' := by
  intro a ha hp
  obtain ⟨w, h1, h2, h3, h4⟩ := h a ha hp
  exact ⟨w, h1, h2, h3, fun to ht hb => by have := h4 to ht hb; unfold cb at *; rw [e]; exact this⟩
theorem Tv_tst (hM : qOk M) (hE : qE M) {j t d a : Nat} (hj : j < 6) (hd : d < qD M) (ha : a < qA M d) (ht : Tr M j t) (h : Tv M t t) : Tv M (tst M t d a) (tst M t d a) := by
  have hq := hM.2.2.2.2.2.2.2 d a hd ha
  have hH := hM.1
  unfold tst
  by_cases k0 : qK M d a = 0
  · rw [if_pos k0]
    have hs := hq.2.2.1 k0
    have hm := lmk_4 hM hE t
    have h7 : dg t (4 * qG M d a + lmk M t) < 7 := am7 hs hm (by have := ht.2.2; omega)
    have e12 : dg (t + 8 ^ (4 * qG M d a + lmk M t)) 12 = dg t 12 := by rw [dg_add h7, if_neg (by omega), Nat.add_zero]
    refine Tv_c e12 (fun a' ha' hp => ?_)
    by_cases q : a' = 4 * qG M d a + lmk M t
    · refine ⟨dg t 12, dg_lt t 12, ht.2.1, ?_, fun to _ hb => decide_eq_true hb⟩
      rw [q, show (4 * qG M d a + lmk M t) % 4 = lmk M t by omega]
      rfl
    · rw [dg_add h7, if_neg q, Nat.add_zero] at hp
      exact h a' ha' hp
  · rw [if_neg k0]
    unfold pas
    by_cases k1 : qK M d a = 1
    · rw [if_pos k1]
      have hg := hq.2.2.2 k1
      have hg3 : qG M d a < 3 := by omega
      intro a' ha' hp
      rw [cme_dg hg3, if_neg (by omega)] at hp
      obtain ⟨w, h1, h2, h3, h4⟩ := h a' ha' hp
      refine ⟨w, h1, h2, h3, fun to hto hb => ?_⟩
      rw [cme_cb hg3 hto, h4 to hto hb]
      rfl
    · rw [if_neg k1]
      exact h
theorem Tv_trc (hM : qOk M) (hE : qE M) {n d c : Nat} (hL : Lg M c) (hr : ∀ j, d + j < qD M → ro n j < qA M (d + j)) : ∀ j, d + j ≤ qD M → Tv M (trc M n d c j) (trc M n d c j) := by
  have hD := hM.2.1
  intro j
  induction j with
  | zero =>
    intro _ a ha hp
    have h0 := (Tr_0 hM hL).1.2.2
    have := tt_g (t := dg c 12 * 8 ^ 12) ha
    have hp' : 0 < dg (dg c 12 * 8 ^ 12) a := hp
    omega
  | succ j ih =>
    intro hj
    exact Tv_tst hM hE (by omega) (by omega) (hr j (by omega)) (Tr_trc hM hE hL hr j (by omega)) (ih (by omega))
end TV
