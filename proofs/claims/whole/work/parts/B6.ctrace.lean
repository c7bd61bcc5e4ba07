/-! KNOWN: the class's traces. -/
section CTRACE
variable {N : Nat} {S : St} {m : Mm} {M : Mt}
theorem tC_traced (hM : qOk M) (hE : qE M) (hW : CW m 10 M) (hR : RLm m M) {t d a : Nat} (ht : t < 8 ^ 13) (hd : d < qD M) (ha : a < qA M d) : f_Rows_traced N S (cs t d) (nI d) (nI a) m = some (cs (tst M t d a) (d + 1)) := by
  have hD := hM.2.1
  have hq := hM.2.2.2.2.2.2.2 d a hd ha
  have hm := lmk_4 hM hE t
  unfold f_Rows_traced tst
  rw [tW_thing hM hW hd ha, b1_s, tW_passed hM hW ht hd ha, b1_s]
  unfold qS
  by_cases k0 : qK M d a = 0
  · have hs := hq.2.2.1 k0
    have hp : pas M t d a = t := by unfold pas; rw [if_neg (by omega)]
    rw [if_pos k0, if_neg (nI_m1 (by omega)), t_lateOf hR ht (by omega), b1_s, hp, t_with hs hm, b1_s, if_pos k0]
  · rw [if_neg k0, if_pos rfl, if_neg k0]
theorem tC_great (hM : qOk M) (hE : qE M) (hW : CW m 10 M) (hR : RLm m M) {d n c x4 : Nat} {x1 : Int64} (hL : Lg M c) (hr : rOk M d n = true) (K : Int64 → Int32 → Option (Int64 × Mm)) : ∀ (r j fuel : Nat), d + j + r = qD M → r < fuel → f_Rows_greatest_L17 N S x1 (nI n) x4 (nI d) m K fuel (cs (trc M n d c j) (d + j)) (nI (d + j)) = K (cs (trc M n d c (j + r)) (qD M)) (nI (qD M)) := by
  intro r
  have hD := hM.2.1
  have hn := rOk_n hr
  have hrj : ∀ j, d + j < qD M → ro n j < qA M (d + j) := fun j hj => rOk_j hr (show j < qD M - d by omega)
  induction r with
  | zero =>
    intro j fuel hj hf
    obtain ⟨f, rfl⟩ : ∃ q, fuel = q + 1 := ⟨fuel - 1, by omega⟩
    have e : d + j = qD M := by omega
    rw [f_Rows_greatest_L17, hW.2.1, e, if_pos (nI_le (Nat.le_refl _) (by omega)), Nat.add_zero]
  | succ r ih =>
    intro j fuel hj hf
    obtain ⟨f, rfl⟩ : ∃ q, fuel = q + 1 := ⟨fuel - 1, by omega⟩
    have hd : d + j < qD M := by omega
    have ha := hrj j hd
    have hT := Tr_trc hM hE hL hrj j (by omega)
    rw [f_Rows_greatest_L17, hW.2.1, if_neg (nI_ge hd (by omega)), pk_sub (by omega), Nat.add_sub_cancel_left, tC_digit (by omega) (by omega), b1_s, tC_traced hM hE hW hR hT.1 hd ha, b1_s, nI_1]
    have := ih (j + 1) f (by omega) (by omega)
    rw [show j + 1 + r = j + (r + 1) by omega] at this
    exact this
theorem tC_cameWith (hM : qOk M) (hE : qE M) (hR : RLm m M) {w : Nat} (hw : w < 8) (hk : wOk (qH M) (qL M) w = true) : f_Ranks_cameWith N S (nI (lmF (qH M) (qL M) w)) m = some (nI w) := by
  have hH := hM.1
  have h4 := lmF_4 (qH M) (by omega) (qL M) (qL8 hM) hE w hw
  have hix : ix (nI (lmF (qH M) (qL M) w)) 8 := nI_in (by omega) (by omega)
  have e := hR.2.2.2.2.2 w hw hk
  unfold f_Ranks_cameWith
  rw [if_neg (nI_pos (by omega)), if_neg (show ¬ (8 : Int32) ≤ nI (lmF (qH M) (qL M) w) from nI_ge (b := 8) (by omega) (by omega)), ck_t hix, nI_clamp (by omega), e]
end CTRACE
