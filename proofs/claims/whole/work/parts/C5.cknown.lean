/-! KNOWN: a trace's own answer. -/
/-- what the things of a trace, all known beforehand, can be made bring -/
def knS (M : Mt) (g c t : Nat) (v : Int) : Prop := ∃ h' c', SD (Bt M) (qO M) 0 0 (tt t) t (hl c) (bas c t) h' c' ∧ v = gE M g (qB M) c'
noncomputable def knV (M : Mt) (g c t : Nat) : Int := gr (knS M g c t)
/-- t is a trace of j days, after c -/
def Tc (M : Mt) (c j t : Nat) : Prop := Tr M j t ∧ Tv M t t ∧ ∀ h, h < 3 → cb c h = true → cb t h = true
section CKNOWN
variable {N : Nat} {S : St} {M : Mt}
theorem Tc_0 (hM : qOk M) {c : Nat} (hL : Lg M c) : Tc M c 0 (dg c 12 * 8 ^ 12) := by
  have h0 := Tr_0 hM hL
  refine ⟨h0.1, fun a ha hp => ?_, fun h _ hb => ?_⟩
  · have := tt_g (t := dg c 12 * 8 ^ 12) ha
    have := h0.1.2.2
    omega
  · unfold cb at *
    rw [h0.2]
    exact hb
theorem Tc_tst (hM : qOk M) (hE : qE M) {c j t d a : Nat} (hj : j < 6) (hd : d < qD M) (ha : a < qA M d) (h : Tc M c j t) : Tc M c (j + 1) (tst M t d a) := by
  refine ⟨Tr_tst hM hE hj hd ha h.1, Tv_tst hM hE hj hd ha h.1 h.2.1, fun x hx hb => ?_⟩
  have hb' := h.2.2 x hx hb
  have hq := hM.2.2.2.2.2.2.2 d a hd ha
  have hH := hM.1
  unfold tst
  by_cases k0 : qK M d a = 0
  · rw [if_pos k0]
    have hs := hq.2.2.1 k0
    have hm := lmk_4 hM hE t
    have h7 : dg t (4 * qG M d a + lmk M t) < 7 := am7 hs hm (by have := h.1.2.2; omega)
    have e12 : dg (t + 8 ^ (4 * qG M d a + lmk M t)) 12 = dg t 12 := by rw [dg_add h7, if_neg (by omega), Nat.add_zero]
    unfold cb at *
    rw [e12]
    exact hb'
  · rw [if_neg k0]
    unfold pas
    by_cases k1 : qK M d a = 1
    · rw [if_pos k1]
      have hg := hq.2.2.2 k1
      rw [cme_cb (by omega) hx, hb']
      rfl
    · rw [if_neg k1]
      exact hb'
theorem Tc_trc (hM : qOk M) (hE : qE M) {n d c : Nat} (hL : Lg M c) (hr : ∀ j, d + j < qD M → ro n j < qA M (d + j)) : ∀ j, d + j ≤ qD M → Tc M c j (trc M n d c j) := by
  have hD := hM.2.1
  intro j
  induction j with
  | zero => intro _; exact Tc_0 hM hL
  | succ j ih =>
    intro hj
    exact Tc_tst hM hE (by omega) (by omega) (hr j (by omega)) (ih (by omega))
/-- somebody may take each -/
theorem SD_ex (hM : qOk M) (hE : qE M) : ∀ {k t c0 h c : Nat}, tt t = k → Tv M t c0 → ∃ h' c', SD (Bt M) (qO M) 0 0 k t h c h' c' := by
  have hH := hM.1
  intro k
  induction k with
  | zero => intro t c0 h c _ _; exact ⟨h, c, rfl, rfl⟩
  | succ k ih =>
    intro t c0 h c ht hT
    obtain ⟨a, ha, hp⟩ : ∃ a, a < 12 ∧ 0 < dg t a := by
      refine Classical.byContradiction (fun hn => ?_)
      have : tt t = 0 := tt_none (fun a ha => by
        rcases Nat.eq_zero_or_pos (dg t a) with e | e
        · exact e
        · exact absurd ⟨a, ha, e⟩ hn)
      omega
    obtain ⟨w, w1, w2, w3, _⟩ := hT a ha hp
    obtain ⟨to, to1, to2⟩ := hE
    have e12 : dg (w * 8 ^ 12) 12 = w := by
      unfold dg
      rw [Nat.mul_div_cancel _ (p8_pos 12), Nat.mod_eq_of_lt w1]
    have hbit := (wOk_cb hM (c := w * 8 ^ 12) (by rw [e12]; exact w2)).2 to to1 to2
    unfold cb at hbit
    rw [e12, decide_eq_true_eq] at hbit
    have hls := tt_less ha hp
    obtain ⟨h', c', hs⟩ := ih (t := t - 8 ^ a) (h := h + h3 to) (c := c + 8 ^ (4 * (a / 4) + to)) (by omega) (Tv_sub hp hT)
    refine ⟨h', c', a, to, ha, by omega, hp, ?_, fun _ => Nat.zero_le _, hs⟩
    unfold gok
    rw [if_neg (by omega), ← w3, Bt_eq hM w1 w2, decide_eq_true_eq]
    exact hbit
theorem Lg_bas (hM : qOk M) {c j t : Nat} (hL : Lg M c) (ht : Tc M c j t) : Lg M (bas c t) ∧ hl (bas c t) = hl c ∧ tt (bas c t) = tt c ∧ dg (bas c t) 12 = dg t 12 := by
  have hc := hL.1
  have e12 : dg (bas c t) 12 = dg t 12 := by rw [dg_bas hc (Nat.le_refl _), if_pos rfl]
  have elo : ∀ i, i < 12 → dg (bas c t) i = dg c i := fun i hi => by rw [dg_bas hc (by omega), if_neg (by omega)]
  have et := tt_of elo
  have ecb : ∀ h, cb (bas c t) h = cb t h := fun h => by unfold cb; rw [e12]
  have hw := wOk_cb hM (c := t) ht.1.2.1
  refine ⟨⟨?_, fun h hh hb => hw.1 h hh (by rw [← ecb]; exact hb), fun h hh hb => by rw [ecb]; exact hw.2 h hh hb, fun s h hs hh hp => ?_, by rw [et.1]; exact hL.2.2.2.2⟩, et.2, et.1, e12⟩
  · have h1 : c % 8 ^ 12 < 8 ^ 12 := Nat.mod_lt _ (Nat.pow_pos (by decide))
    have h2 : dg t 12 * 8 ^ 12 ≤ 7 * 8 ^ 12 := Nat.mul_le_mul_right _ (by have := dg_lt t 12; omega)
    unfold bas
    rw [Nat.pow_succ 8 12]
    omega
  · rw [ecb]
    refine ht.2.2 h hh (hL.2.2.2.1 s h hs hh ?_)
    unfold am at *
    rw [elo _ (by omega)] at hp
    exact hp
theorem knV_is (hM : qOk M) (hE : qE M) {g c d j t : Nat} (hL : Lg M c) (hh : hl c ≤ qO M) (hcd : tt c ≤ d) (hj : d + j ≤ qD M) (ht : Tc M c j t) {o : Option Int} (h : oG (fun v => ∃ h' c', SD (Bt M) (qO M) 0 0 (tt t) t (hl c) (bas c t) h' c' ∧ v = gE M g (qB M) c') o) : o = some (knV M g c t) ∧ isG (knS M g c t) (knV M g c t) ∧ sm6 (knV M g c t) := by
  cases o with
  | none =>
    obtain ⟨h', c', hs⟩ := SD_ex hM hE (h := hl c) (c := bas c t) rfl ht.2.1
    exact absurd ⟨h', c', hs, rfl⟩ (h.2 rfl (gE M g (qB M) c'))
  | some x =>
    obtain ⟨h1, h2⟩ := h.1 x rfl
    have e : knV M g c t = x := gr_e h1
    rw [e]
    exact ⟨rfl, h1, h2⟩
theorem tC_last (hM : qOk M) (hE : qE M) (hN : 100 ≤ N) {g c d j t e : Nat} {m : Mm} (hg : g < 3) (hL : Lg M c) (hh : hl c ≤ qO M) (hcd : tt c ≤ d) (hj : d + j ≤ qD M) (he8 : e < 8) (ht : Tc M c j t) (he : Env S m M) (hTE : ∀ b', b' ≤ qB M → TE M S m g b') : ∃ m', f_Rows_ending N (cs c d) (cs t e) = some (cs (bas c t) e) ∧ f_Rows_spread N S (cs (bas c t) e) (cs t e) 0 0 (33 + 3 * (3 * g + qB M)) m = some (lz (knV M g c t), m') ∧ Gd M S m m' ∧ isG (knS M g c t) (knV M g c t) ∧ sm6 (knV M g c t) := by
  have hD := hM.2.1
  have hB := hM.2.2.2.1
  obtain ⟨l1, l2, l3, l4⟩ := Lg_bas hM hL ht
  have htt := ht.1.2.2
  obtain ⟨m', o, r1, r2, r3⟩ := tC_spread (S := S) hM hE hN (b := qB M) hg (by omega) he8 he8 8 (tt t) t (bas c t) 0 0 m (by omega) rfl ht.1.1 (by omega) (by omega) (fun a ha => by omega) (Tv_c l4 ht.2.1) l1 (by omega) (by omega) he hTE
  rw [l2] at r3
  obtain ⟨k1, k2, k3⟩ := knV_is hM hE hL hh hcd hj ht r3
  rw [k1] at r1
  exact ⟨m', tC_ending hL.1 (by omega) ht.1.1 he8, r1, r2, k2, k3⟩
theorem kn_RF (hM : qOk M) (hE : qE M) {g n d c : Nat} (hL : Lg M c) (hcd : tt c ≤ d) (hd : d ≤ qD M) (hr : ∀ j, d + j < qD M → ro n j < qA M (d + j)) (v : Int) : knS M g c (trc M n d c (qD M - d)) v ↔ ∃ c', RF M n d c (qD M - d) c' ∧ v = gE M g (qB M) c' := by
  have hx := RF_SD hM hE hL hcd hr (qD M - d) (by omega)
  constructor
  · rintro ⟨h', c', h1, h2⟩
    exact ⟨c', (hx c').mpr ⟨h', SD_any h1⟩, h2⟩
  · rintro ⟨c', h1, h2⟩
    obtain ⟨h', h3⟩ := (hx c').mp h1
    exact ⟨h', c', SD_any h3, h2⟩
theorem tC_greatest (hM : qOk M) (hE : qE M) (hN : 100 ≤ N) {g n c d : Nat} {m : Mm} (hg : g < 3) (hw : NW M c d none) (hr : rOk M d n = true) (he : Env S m M) (hTE : ∀ b', b' ≤ qB M → TE M S m g b') : ∃ m', f_Rows_greatest N S (cs c d) (nI n) (33 + 3 * (3 * g + qB M)) m = some (lz (knV M g c (trc M n d c (qD M - d))), m') ∧ Gd M S m m' ∧ isG (knS M g c (trc M n d c (qD M - d))) (knV M g c (trc M n d c (qD M - d))) ∧ sm6 (knV M g c (trc M n d c (qD M - d))) := by
  have hD := hM.2.1
  obtain ⟨hL, hd, hh, hcd, _⟩ := hw
  have hrj : ∀ j, d + j < qD M → ro n j < qA M (d + j) := fun j hj => rOk_j hr (show j < qD M - d by omega)
  have hT := Tc_trc hM hE hL hrj (qD M - d) (by omega)
  obtain ⟨m', r0, r1, r2, r3, r4⟩ := tC_last (N := N) (d := d) (e := qD M) hM hE hN hg hL hh hcd (by omega) (by omega) hT he hTE
  have key := tC_great (N := N) (S := S) (m := m) (x1 := cs c d) (x4 := 33 + 3 * (3 * g + qB M)) hM hE he.1 he.2.2.1 hL hr (fun (z5_6 : Int64) (z5_8 : Int32) => b1 (f_Rows_ending N (cs c d) z5_6) fun r6 => b2 (f_Rows_spread N S r6 z5_6 0 0 (33 + 3 * (3 * g + qB M)) m) fun r7 m7 => some (r7, m7)) (qD M - d) 0 N (by omega) (by omega)
  refine ⟨m', ?_, r2, r3, r4⟩
  unfold f_Rows_greatest
  rw [t_dayOf hL.1 (by omega), b1_s, cs_hi hL.1 (by omega)]
  refine Eq.trans key ?_
  rw [Nat.zero_add, r0, b1_s, r1, b2_s]
end CKNOWN
