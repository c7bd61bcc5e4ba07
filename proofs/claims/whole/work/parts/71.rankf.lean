/-! RANKS: what the class's methods answer of places. -/
/-- the tables that never change -/
def RKm (m : Mm) : Prop := (∀ a b c h, a + b + c + h ≤ 6 → mX m 19 (a + 8 * b + 64 * c + 512 * h) = nI (nF a b c h)) ∧ (∀ n, n < 210 → mX m 20 n = nI (sO n)) ∧ (∀ K b, K < 7 → b < upF K → mX m 22 (K * 210 + b) = nI (miF K b)) ∧ (∀ B a, B < 7 → a < upF B → mX m 23 (B * 210 + a) = nI (fiF B a)) ∧ ∀ B, B < 7 → mX m 24 B = nI (szF B)
/-- what is laid out for a matter -/
def RLm (m : Mm) (M : Mt) : Prop := mI m 18 11 = nI (qD M) ∧ mI m 18 10 = nI (mks M) ∧ (∀ d, d ≤ qD M → mX m 25 d = nI (lim M d)) ∧ (∀ d, d ≤ qD M + 1 → mX m 26 d = nI (sta M d)) ∧ (∀ w, w < 8 → mX m 27 w = nI (lmF (qH M) (qL M) w)) ∧ ∀ w, w < 8 → wOk (qH M) (qL M) w = true → mX m 28 (lmF (qH M) (qL M) w) = nI w
theorem key4 (n : Nat) : n % 4096 = dg n 0 + 8 * dg n 1 + 64 * dg n 2 + 512 * dg n 3 := by
  unfold dg
  simp only [Nat.pow_zero, Nat.div_one, Nat.pow_one, show (8 : Nat) ^ 2 = 64 from rfl, show (8 : Nat) ^ 3 = 512 from rfl]
  omega
def kS (c s : Nat) : Nat := am c s 0 + 8 * am c s 1 + 64 * am c s 2 + 512 * am c s 3
theorem kS_lt (c s : Nat) : kS c s < 4096 := by
  have h0 := am_lt c s 0
  have h1 := am_lt c s 1
  have h2 := am_lt c s 2
  have h3 := am_lt c s 3
  unfold kS
  omega
theorem keyS {c d s : Nat} (hs : s < 3) : (c + d * 8 ^ 13) / 8 ^ (4 * s) % 4096 = kS c s := by
  rw [key4, dg_div, dg_div, dg_div, dg_div, cs_dg (by omega), cs_dg (by omega), cs_dg (by omega), cs_dg (by omega)]
  rfl
section RANKF
variable {N : Nat} {S : St} {m : Mm} {M : Mt} {c d : Nat}
theorem t_key0 : (cs c d).toInt32 &&& 4095 = nI (kS c 0) := by
  unfold cs
  rw [lN_i, nI_a4095]
  have := keyS (c := c) (d := d) (s := 0) (by omega)
  rw [Nat.mul_zero, Nat.pow_zero, Nat.div_one] at this
  rw [this]
theorem t_key1 (hc : c < 8 ^ 13) (hd : d < 8) : (lus (cs c d) 12).toInt32 &&& 4095 = nI (kS c 1) := by
  have := cs_lt2 hc hd
  unfold cs
  rw [show (12 : Int32) = nI 12 from rfl, lus_n (by omega) (by omega), lN_i, nI_a4095, show (2 : Nat) ^ 12 = 8 ^ (4 * 1) from rfl, keyS (by omega)]
theorem t_key2 (hc : c < 8 ^ 13) (hd : d < 8) : (lus (cs c d) 24).toInt32 &&& 4095 = nI (kS c 2) := by
  have := cs_lt2 hc hd
  unfold cs
  rw [show (24 : Int32) = nI 24 from rfl, lus_n (by omega) (by omega), lN_i, nI_a4095, show (2 : Nat) ^ 24 = 8 ^ (4 * 2) from rfl, keyS (by omega)]
theorem RKm.n (h : RKm m) {s : Nat} (hs : s < 3) (h6 : tt c ≤ 6) : mX m 19 (kS c s) = nI (nS c s) := by
  have := rS_tt c
  unfold rS at this
  exact h.1 _ _ _ _ (by rcases (by omega : s = 0 ∨ s = 1 ∨ s = 2) with rfl | rfl | rfl <;> omega)
theorem upF_le {K : Nat} (h : K < 7) : upF K ≤ 210 := (by decide : ∀ K, K < 7 → upF K ≤ 210) K h
theorem t_cellPlace (hR : RKm m) (hc : c < 8 ^ 13) (hd : d < 8) (h6 : tt c ≤ 6) {B : Nat} (hB : B ≤ 6) : f_Ranks_cellPlace N S (cs c d) (nI B) m = some (zOpt (cpo B c)) := by
  have v0 := nS_v (c := c) (s := 0) (by omega) h6
  have v1 := nS_v (c := c) (s := 1) (by omega) h6
  have v2 := nS_v (c := c) (s := 2) (by omega) h6
  have hsum := rS_tt c
  have k0 := kS_lt c 0
  have k1 := kS_lt c 1
  have k2 := kS_lt c 2
  unfold f_Ranks_cellPlace
  rw [t_key0, t_key1 hc hd, t_key2 hc hd, ck_t (nI_in k0 (by omega)), ck_t (nI_in k1 (by omega)), ck_t (nI_in k2 (by omega)), nI_clamp (show kS c 0 < 2 ^ 31 by omega), nI_clamp (show kS c 1 < 2 ^ 31 by omega), nI_clamp (show kS c 2 < 2 ^ 31 by omega), hR.n (by omega) h6, hR.n (by omega) h6, hR.n (by omega) h6, if_neg (nI_pos (by omega)), if_neg (nI_pos (by omega)), if_neg (nI_pos (by omega)), ck_t (nI_in v0.2 (by omega)), ck_t (nI_in v1.2 (by omega)), ck_t (nI_in v2.2 (by omega))]
  simp only [nI_clamp (show nS c 0 < 2 ^ 31 by omega), nI_clamp (show nS c 1 < 2 ^ 31 by omega), nI_clamp (show nS c 2 < 2 ^ 31 by omega), hR.2.1 _ v0.2, hR.2.1 _ v1.2, hR.2.1 _ v2.2]
  rw [nI_add, nI_add, v0.1, v1.1, v2.1, hsum]
  unfold cpo
  by_cases h : tt c ≤ B
  · have i0 : nS c 0 < upF B := (upF_v _ v0.2 B (by omega)).mp (by omega)
    have i1 : nS c 1 < upF (B - rS c 0) := (upF_v _ v1.2 _ (by omega)).mp (by omega)
    have u0 := upF_le (K := B) (by omega)
    have u1 := upF_le (K := B - rS c 0) (by omega)
    have e210 : (210 : Int32) = nI 210 := rfl
    rw [if_pos (nI_le h (by omega)), if_pos h, e210, pk_mul, nI_add, pk_sub (by omega), pk_mul, nI_add, ck_t (nI_in (by omega) (by omega)), ck_t (nI_in (by omega) (by omega)), nI_clamp (show B * 210 + nS c 0 < 2 ^ 31 by omega), ck_t (nI_in (by omega) (by omega)), nI_clamp (show (B - rS c 0) * 210 + nS c 1 < 2 ^ 31 by omega), hR.2.2.2.1 _ _ (by omega) i0, hR.2.2.1 _ _ (by omega) i1, nI_add, nI_add]
    show some (nI _) = some (nI _)
    unfold cpl
    rw [v0.1, Nat.add_assoc]
  · rw [if_neg (nI_ge (by omega) (by omega)), if_neg h]
    rfl
theorem t_lateOf (hL : RLm m M) (hc : c < 8 ^ 13) (hd : d < 8) : f_Ranks_lateOf N S (cs c d) m = some (nI (lmk M c)) := by
  have := dg_lt c 12
  unfold f_Ranks_lateOf
  rw [t_cameOf hc hd, b1_s, ck_t (nI_in (by omega) (by omega)), nI_clamp (by omega), hL.2.2.2.2.1 _ this]
  rfl
theorem zO_m1 {o : Option Nat} (h : ∀ v, o = some v → v < 2 ^ 31) : zOpt o = -1 ↔ o = none := by
  cases o with
  | none => exact ⟨fun _ => rfl, fun _ => rfl⟩
  | some v => exact ⟨fun e => absurd e (nI_m1 (h v rfl)), fun e => by cases e⟩
theorem cpo_31 {B : Nat} (hB : B ≤ 6) (h6 : tt c ≤ 6) : ∀ v, cpo B c = some v → v < 2 ^ 31 := fun v e => by
  have h1 := cpo_lt hB h6 e
  have h2 := szF_v B (by omega)
  omega
theorem t_endPlace (hM : qOk M) (hR : RKm m) (hL : RLm m M) (hc : c < 8 ^ 13) (hd : d < 8) (h6 : tt c ≤ 6) : f_Ranks_endPlaceOf N S (cs c d) m = some (zOpt (plE M c)) := by
  have hD := hM.2.1
  unfold f_Ranks_endPlaceOf
  rw [hL.1, ck_t (nI_in (by omega) (by omega)), nI_clamp (by omega), hL.2.2.1 _ (Nat.le_refl _), t_cellPlace hR hc hd h6 (lim_le M _), b1_s, t_lateOf hL hc hd, b1_s, hL.2.1]
  unfold plE
  cases e : cpo (lim M (qD M)) c with
  | none => rfl
  | some v =>
    have := cpo_31 (lim_le M _) h6 v e
    rw [if_neg (show ¬ zOpt (some v) = -1 from nI_m1 this)]
    show some (nI v * nI (mks M) + nI (lmk M c)) = some (nI _)
    rw [pk_mul, nI_add]
theorem t_place (hM : qOk M) (hR : RKm m) (hL : RLm m M) (hc : c < 8 ^ 13) (hd : d ≤ qD M) (h6 : tt c ≤ 6) : f_Ranks_placeOf N S (cs c d) m = some (zOpt (plS M c d)) := by
  have hD := hM.2.1
  unfold f_Ranks_placeOf
  rw [t_dayOf hc (by omega), b1_s, hL.1, if_pos (nI_le hd (by omega)), ck_t (nI_in (by omega) (by omega))]
  simp only [nI_clamp (show d < 2 ^ 31 by omega)]
  rw [hL.2.2.1 _ hd, hL.2.2.2.1 _ (by omega), t_cellPlace hR hc (by omega) h6 (lim_le M _), b1_s, ck_t (nI_in (by omega) (by omega)), t_lateOf hL hc (by omega), b1_s, hL.2.1]
  unfold plS
  cases e : cpo (lim M d) c with
  | none => rfl
  | some v =>
    have := cpo_31 (lim_le M _) h6 v e
    rw [if_neg (show ¬ zOpt (some v) = -1 from nI_m1 this)]
    show some ((nI (sta M d) + nI v) * nI (mks M) + nI (lmk M c)) = some (nI _)
    rw [nI_add, pk_mul, nI_add]
def tAt (m : Mm) (l f : Nat) (o : Option Nat) : Int64 := match o with
  | none => -9223372036854775808
  | some p => if p < l then mYy m f p else -9223372036854775808
def tPt (m : Mm) (l f : Nat) (o : Option Nat) (z : Int64) : Mm := match o with
  | none => m
  | some p => if p < l then vY m f p z else m
theorem opt_or {α : Type} (o : Option α) : o = none ∨ ∃ p, o = some p := by
  cases o with
  | none => exact Or.inl rfl
  | some p => exact Or.inr ⟨p, rfl⟩
/-- a table's row: found where it is, else nothing is known; a place of it is written -/
theorem t_at {x f : Nat} (hf : S.1 x 0 = some f) (hl : S.2.2.1 f < 2 ^ 31) {o : Option Nat} (ho : ∀ v, o = some v → v < 2 ^ 31) : f_Table_at N S x (zOpt o) m = some (tAt m (S.2.2.1 f) f o) := by
  unfold f_Table_at
  rw [hf]
  cases o with
  | none =>
    rw [if_pos (show zOpt none < 0 by decide)]
    rfl
  | some p =>
    have hp := ho p rfl
    rw [if_neg (show ¬ zOpt (some p) < 0 from nI_pos hp)]
    simp only [b1_s]
    by_cases h : p < S.2.2.1 f
    · rw [if_neg (show ¬ Int32.ofNat (S.2.2.1 f) ≤ zOpt (some p) from nI_ge h hl), show zOpt (some p) = nI p from rfl, ck_t (nI_in h hl)]
      show some (mYy m f (nI p).toNatClampNeg) = _
      rw [nI_clamp hp]
      first | (unfold tAt; exact congrArg some (if_pos h).symm) | (unfold tPt; exact congrArg some (if_pos h).symm)
    · rw [if_pos (show Int32.ofNat (S.2.2.1 f) ≤ zOpt (some p) from nI_le (by omega) hp)]
      first | (unfold tAt; exact congrArg some (if_neg h).symm) | (unfold tPt; exact congrArg some (if_neg h).symm)
theorem t_put {x f : Nat} (hf : S.1 x 0 = some f) (hl : S.2.2.1 f < 2 ^ 31) {o : Option Nat} (ho : ∀ v, o = some v → v < 2 ^ 31) {z : Int64} : f_Table_put N S x (zOpt o) z m = some (tPt m (S.2.2.1 f) f o z) := by
  unfold f_Table_put
  rw [hf]
  cases o with
  | none =>
    rw [if_pos (show zOpt none < 0 by decide)]
    rfl
  | some p =>
    have hp := ho p rfl
    rw [if_neg (show ¬ zOpt (some p) < 0 from nI_pos hp)]
    simp only [b1_s]
    by_cases h : p < S.2.2.1 f
    · rw [if_neg (show ¬ Int32.ofNat (S.2.2.1 f) ≤ zOpt (some p) from nI_ge h hl), show zOpt (some p) = nI p from rfl, ck_t (nI_in h hl)]
      show some (vY m f (nI p).toNatClampNeg z) = _
      rw [nI_clamp hp]
      first | (unfold tAt; exact congrArg some (if_pos h).symm) | (unfold tPt; exact congrArg some (if_pos h).symm)
    · rw [if_pos (show Int32.ofNat (S.2.2.1 f) ≤ zOpt (some p) from nI_le (by omega) hp)]
      first | (unfold tAt; exact congrArg some (if_neg h).symm) | (unfold tPt; exact congrArg some (if_neg h).symm)
end RANKF
