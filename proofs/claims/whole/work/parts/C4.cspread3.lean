/-! KNOWN: the class's spread, whole. -/
section CSPREAD3
variable {N : Nat} {S : St} {M : Mt}
theorem tt_none {t : Nat} (h : ∀ a, a < 12 → dg t a = 0) : tt t = 0 := by
  have e : ∀ s h', s < 3 → h' < 4 → am t s h' = 0 := fun s h' h1 h2 => h (4 * s + h') (by omega)
  have e2 : ∀ h', h' < 4 → th t h' = 0 := fun h' h2 => by
    unfold th
    rw [e 0 h' (by omega) h2, e 1 h' (by omega) h2, e 2 h' (by omega) h2]
  unfold tt
  rw [e2 0 (by omega), e2 1 (by omega), e2 2 (by omega), e2 3 (by omega)]
theorem tC_spread (hM : qOk M) (hE : qE M) (hN : 100 ≤ N) {g b d d' : Nat} (hg : g < 3) (hb : b < 3) (hd : d < 8) (hd' : d' < 8) : ∀ (q k t c grp frm : Nat) (m : Mm), k < q → tt t = k → t < 8 ^ 13 → grp ≤ 12 → frm < 4 → (∀ a, a < grp → dg t a = 0) → Tv M t c → Lg M c → hl c ≤ qO M → tt c + k ≤ 6 → Env S m M → (∀ b', b' ≤ b → TE M S m g b') → ∃ m' o, fR_Rows_spread N S q (cs c d) (cs t d') (nI grp) (nI frm) (33 + 3 * (3 * g + b)) m = some (zL o, m') ∧ Gd M S m m' ∧ oG (fun v => ∃ h' c', SD (Bt M) (qO M) grp frm k t (hl c) c h' c' ∧ v = gE M g b c') o := by
  have hO := hM.2.2.1
  intro q
  induction q with
  | zero => intro k t c grp frm m hk; exact absurd hk (Nat.not_lt_zero _)
  | succ q ih =>
    intro k t c grp frm m hk ht htl hgr hfr h0 hT hL hh h6 he hTE
    have hc := hL.1
    rw [fR_Rows_spread, fM_Rows_spread]
    obtain ⟨a, a1, a2, a3, a4, a5⟩ := tC_s4 (N := N) (S := S) (m := m) (rec := fR_Rows_spread N S q) (x1 := cs c d) (x5 := nI grp) (x6 := nI frm) (x7 := 33 + 3 * (3 * g + b)) htl hd' (fun (z3_8 : Int32) => (if z3_8 < 12 then b1 (f_Ranks_cameWith N S ((irm z3_8 4)) m) fun r5 => (jn (fun (s6 : Int32) => f_Rows_spread_L95 N S (fR_Rows_spread N S q) (cs c d) (33 + 3 * (3 * g + b)) z3_8 ((z3_8 / 4)) r5 ((cs t d' - ((lsl 1 ((3 * z3_8)))))) (fun (z14_13 : Int64) (z14_15 : Int32) (m14 : Mm) => some (z14_13, m14)) N ((-9223372036854775808)) s6 m) (fun j93 => if z3_8 = nI grp then j93 (nI frm) else j93 0)) else b2 (f_Ends_value N S (33 + 3 * (3 * g + b)) (cs c d) m) fun r24 m24 => some (r24, m24))) (12 - grp) grp N (by omega) (by omega)
    rw [a5]
    have hz : ∀ k, k < a → dg t k = 0 := fun k hk => by
      by_cases w : k < grp
      · exact h0 k w
      · exact a3 k (by omega) hk
    by_cases ha : a < 12
    · have hp := a4 ha
      have hk1 := tt_g (t := t) ha
      obtain ⟨k1, rfl⟩ : ∃ z, k = z + 1 := ⟨k - 1, by omega⟩
      have hls := tt_less ha hp
      obtain ⟨w, w1, w2, w3, w4⟩ := hT a ha hp
      have ea : 4 * (a / 4) + a % 4 = a := by omega
      have es : cs t d' - lsl 1 (3 * nI a) = cs (t - 8 ^ a) d' := by
        rw [show (3 : Int32) * nI a = nI (3 * a) by rw [show (3 : Int32) = nI 3 from rfl, pk_mul], show (1 : Int64) = lN 1 from rfl, lsl_n _ (by omega), p8, Nat.one_mul]
        have := cs_sub (c := t) (d := d') (s := a / 4) (h := a % 4) (by unfold am; rw [ea]; exact hp)
        rw [ea] at this
        exact this
      have erm : irm (nI a) 4 = nI (a % 4) := pk_rem (d := 4) (by omega) (by omega) (by omega)
      have edv : nI a / 4 = nI (a / 4) := pk_div (d := 4) (by omega) (by omega) (by omega)
      have ecw := tC_cameWith (N := N) (S := S) hM hE he.2.2.1 w1 w2
      rw [w3] at ecw
      have hrec : ∀ s to m1, s ≤ to → to < 4 → gok (Bt M) (qO M) a to (hl c) → Gd M S m m1 → ∃ m2 o, fR_Rows_spread N S q (cs (c + 8 ^ (4 * (a / 4) + to)) d) (cs (t - 8 ^ a) d') (nI a) (nI to) (33 + 3 * (3 * g + b)) m1 = some (zL o, m2) ∧ Gd M S m1 m2 ∧ oG (fun v => ∃ h' c', SD (Bt M) (qO M) a to k1 (t - 8 ^ a) (hl c + h3 to) (c + 8 ^ (4 * (a / 4) + to)) h' c' ∧ v = gE M g b c') o := by
        intro s to m1 hs hto hy hG
        have h7 : dg c (4 * (a / 4) + to) < 7 := am7 (by omega) hto (by omega)
        have ehl := hl_give (c := c) (s := a / 4) (h := to) (by omega) hto h7
        have ett := tt_add (c := c) (s := a / 4) (h := to) (by omega) hto h7
        have e12 : dg (c + 8 ^ (4 * (a / 4) + to)) 12 = dg c 12 := by rw [dg_add h7, if_neg (by omega), Nat.add_zero]
        have hcb : to = 3 ∨ cb c to = true := by
          by_cases z : to = 3
          · exact Or.inl z
          · right
            unfold gok at hy
            rw [if_neg z, ← w3, Bt_eq hM w1 w2, decide_eq_true_eq] at hy
            exact w4 to (by omega) hy
        have hLg := Lg_give hL (s := a / 4) (h := to) (by omega) hto hcb (by omega)
        have := ih k1 (t - 8 ^ a) (c + 8 ^ (4 * (a / 4) + to)) a to m1 (by omega) (by omega) (Nat.lt_of_le_of_lt (Nat.sub_le _ _) htl) (by omega) hto (fun a' ha' => by rw [dg_sub hp, if_neg (by omega), hz a' ha']) (Tv_c e12 (Tv_sub hp hT)) hLg (by
          rw [ehl]
          by_cases z : to = 3
          · unfold gok at hy
            rw [if_pos z] at hy
            rw [if_pos z]
            exact hy
          · rw [if_neg z]
            exact hh) (by rw [ett]; omega) (hG.env he) (fun b' hb' => hG.2.2.2.2.1 g b' hg (by omega) (hTE b' hb'))
        rw [ehl] at this
        exact this
      have fin : ∀ s, s < 4 → (∀ h' c', SD (Bt M) (qO M) grp frm (k1 + 1) t (hl c) c h' c' ↔ SD (Bt M) (qO M) a s (k1 + 1) t (hl c) c h' c') → ∃ m' o, f_Rows_spread_L95 N S (fR_Rows_spread N S q) (cs c d) (33 + 3 * (3 * g + b)) (nI a) (nI (a / 4)) (nI w) (cs (t - 8 ^ a) d') (fun (z14_13 : Int64) (z14_15 : Int32) (m14 : Mm) => some (z14_13, m14)) N UNK (nI s) m = some (zL o, m') ∧ Gd M S m m' ∧ oG (fun v => ∃ h' c', SD (Bt M) (qO M) grp frm (k1 + 1) t (hl c) c h' c' ∧ v = gE M g b c') o := by
        intro s hs hiff
        obtain ⟨m', o, r1, r2, r3⟩ := tC_s95 hM hE hN ha hc hd he.1 w1 w2 w3 (Nat.le_of_lt hs) (hrec s) (fun (z14_13 : Int64) (z14_15 : Int32) (m14 : Mm) => some (z14_13, m14))
        refine ⟨m', o, r1, r2, oG_c (fun v => ⟨fun h => ?_, fun h => ?_⟩) r3⟩
        · obtain ⟨to, t1, t2, t3, h', c', t4, t5⟩ := h
          exact ⟨h', c', (hiff h' c').mpr ⟨a, to, ha, t2, hp, t3, fun _ => t1, SD_mono t1 t4⟩, t5⟩
        · obtain ⟨h', c', t4, t5⟩ := h
          obtain ⟨to, t1, t2, t3, t6⟩ := SD_first ha ht hp ((hiff h' c').mp t4)
          exact ⟨to, t2, t1, t3, h', c', t6, t5⟩
      rw [if_pos (show nI a < 12 from nI_lt (a := a) (b := 12) ha (by omega)), erm, ecw, b1_s, edv, es]
      simp only [jn]
      by_cases w : a = grp
      · rw [if_pos (by rw [w])]
        exact fin frm hfr (fun h' c' => by rw [w])
      · rw [if_neg (fun z => w ((nI_eq (by omega) (by omega)).mp z))]
        have hz0 : dg t grp = 0 := hz grp (by omega)
        exact fin 0 (by omega) (fun h' c' => ⟨SD_any, SD_of hz0⟩)
    · have e12 : a = 12 := by omega
      have hk0 : k = 0 := by
        rw [← ht]
        exact tt_none (fun k hk => hz k (by omega))
      subst hk0
      rw [e12, if_neg (show ¬ nI 12 < 12 by decide)]
      obtain ⟨m', r1, r2⟩ := tE_value hM hE hN hg hb (by omega) hL hd he hTE
      rw [r1, b2_s]
      refine ⟨m', some (gE M g b c), rfl, r2, fun x hx => ?_, fun hx => by cases hx⟩
      have hx' : gE M g b c = x := Option.some.inj hx
      rw [← hx']
      refine ⟨⟨⟨hl c, c, ⟨rfl, rfl⟩, rfl⟩, fun v hv => ?_⟩, sm6_s (gE_b hM hE hL)⟩
      obtain ⟨h', c', ⟨_, e⟩, e2⟩ := hv
      rw [e2, e]
      exact Int.le_refl _
end CSPREAD3
