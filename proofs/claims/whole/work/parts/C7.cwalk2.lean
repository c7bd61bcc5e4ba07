/-! COST: the walk. -/
section CWALK2
variable {N : Nat} {S : St} {M : Mt}
theorem tC_walk (hM : qOk M) (hE : qE M) (hN : 100 ≤ N) {g c d s fw W r0 t0 : Nat} {fl : Int} (hg : g < 3) (hw : NW M c d none) (hfl : sm6 fl) (hfw : S.1 30 2 = some fw) (hfo : fw = 31 ∨ 101 ≤ fw) (hWl : S.2.2.1 fw = W) (hW31 : W < 2 ^ 31) : ∀ (q r j t : Nat) (m : Mm) (o : Option Int), r < q → d + j + r = qD M → Tc M c j t → (∀ T, Bl M r t T → Bl M r0 t0 T) → Env S m M → (∀ b', b' ≤ qB M → TE M S m g b') → Iw M g c d s fl fw W r0 t0 m o (d + j) → ∃ m' o', fR_Rows_walkOn N S q (cs c d) (cs t (d + j)) (33 + 3 * (3 * g + qB M)) m = some m' ∧ Gw M S fw m m' ∧ Iw M g c d s fl fw W r0 t0 m' o' (d + j) ∧ (∀ v, lowr o v → lowr o' v) ∧ Dn M g c fl o' t (d + j) ∧ ∀ p, mX m' fw p = mX m fw p ∨ (mX m' fw p = nI s ∧ ∃ t' e', d + j ≤ e' ∧ Dm M t' ∧ plS M t' e' = some p) := by
  have hD := hM.2.1
  have hB := hM.2.2.2.1
  obtain ⟨hL, hd, hh, hcd, _⟩ := hw
  intro q
  induction q with
  | zero => intro r j t m o hr; exact absurd hr (Nat.not_lt_zero _)
  | succ q ih =>
    intro r j t m o hr hj ht hrt he hTE hI
    have htd := Tc_dm (by omega) ht
    rw [fR_Rows_walkOn, fM_Rows_walkOn, hI.2.1, hI.2.2.1]
    by_cases q0 : zMx o ≤ lz fl
    · rw [if_pos q0]
      exact ⟨m, o, rfl, Gw.refl, hI, fun _ h => h, Or.inl ((lo_le hfl (fun y hy => (hI.2.2.2.1 y hy).1)).mp q0), fun p => Or.inl rfl⟩
    rw [if_neg q0, t_place hM he.2.1 he.2.2.1 htd.1 (by omega) htd.2.2, b1_s]
    obtain ⟨b, m3, e3, f1, f2, f4, f3, f5, f6⟩ := tC_was (N := N) (S := S) (m := m) hfw hWl hW31 (plS_31 hM htd (show d + j ≤ 6 by omega))
    rw [e3, b2_s]
    have eI3 : ∀ a k, mI m3 a k = mI m a k := fun a k => by unfold mI; rw [f1]
    have eJ3 : ∀ a k, mJ m3 a k = mJ m a k := fun a k => by unfold mJ; rw [f2]
    have g3 : Gw M S fw m m3 := Gw_of f1 (fun a k _ => by rw [f2]) f3 f4
    have he3 := g3.env hfo he
    have hTE3 : ∀ b', b' ≤ qB M → TE M S m3 g b' := fun b' hb' => g3.2.2.2.2.1 g b' hg (by omega) (hTE b' hb')
    have hcell : ∀ p, mX m3 fw p = mX m fw p ∨ (mX m3 fw p = nI s ∧ ∃ t' e', d + j ≤ e' ∧ Dm M t' ∧ plS M t' e' = some p) := fun p => by
      rcases f5 p with w | ⟨w, w'⟩
      · exact Or.inl w
      · exact Or.inr ⟨w'.trans hI.1, t, d + j, Nat.le_refl _, htd, w⟩
    have hI3 : Iw M g c d s fl fw W r0 t0 m3 o (d + j + 1) := by
      refine ⟨(eI3 30 3).trans hI.1, (eJ3 30 4).trans hI.2.1, (eJ3 30 5).trans hI.2.2.1, hI.2.2.2.1, fun e' t' p h1 h2 h3 h4 h5 h6 => ?_⟩
      rcases f5 p with w | ⟨w, _⟩
      · exact hI.2.2.2.2 e' t' p (by omega) h2 h3 h4 h5 (w.symm.trans h6)
      · have := (plS_inj hM (Tc_dm (by omega) h3) htd h4 w).2
        omega
    cases b with
    | true =>
      rw [if_neg tft]
      obtain ⟨p, p1, p2, p3⟩ := f6 rfl
      have hdn := hI.2.2.2.2 (d + j) t p (Nat.le_refl _) (by omega) (by rw [Nat.add_sub_cancel_left]; exact ht) p1 p2 (p3.trans hI.1)
      refine ⟨m3, o, rfl, g3, ⟨hI3.1, hI3.2.1, hI3.2.2.1, hI3.2.2.2.1, fun e' t' p' h1 h2 h3 h4 h5 h6 => ?_⟩, fun _ h => h, hdn, hcell⟩
      rcases f5 p' with w | ⟨w, _⟩
      · exact hI.2.2.2.2 e' t' p' h1 h2 h3 h4 h5 (w.symm.trans h6)
      · have hi := plS_inj hM (Tc_dm (by omega) h3) htd h4 w
        rw [hi.1, hi.2]
        exact hdn
    | false =>
      rw [if_pos tf_f, t_dayOf htd.1 (by omega), b1_s, he3.1.2.1]
      cases r with
      | zero =>
        rw [if_neg (nI_nlt (by omega) (by omega))]
        obtain ⟨m4, r0', r1, r2, r3, r4⟩ := tC_last (N := N) (e := d + j) hM hE hN hg hL hh hcd (show d + j ≤ qD M by omega) (by omega) ht he3 hTE3
        rw [r0', b1_s, r1, b2_s, (eJ3 30 4).trans hI.2.1, zM_min r4 (fun y hy => (hI.2.2.2.1 y hy).1)]
        obtain ⟨n1, n2, n3⟩ := omn_le o (knV M g c t)
        have gw5 : Gw M S fw m4 (vJ m4 30 4 (lz (omn o (knV M g c t)))) := Gw_of rfl (fun a k hak => by
          show u2 m4.2.1 30 4 (lz (omn o (knV M g c t))) a k = _
          unfold u2
          rw [if_neg hak]) (fun _ _ => rfl) rfl
        have hlo : ∀ v, lowr o v → lowr (some (omn o (knV M g c t))) v := fun v hv => by
          obtain ⟨y, y1, y2⟩ := hv
          have := n2 y y1
          exact ⟨_, rfl, by omega⟩
        have hz : qD M - (d + j) = 0 := by omega
        have hdn : Dn M g c fl (some (omn o (knV M g c t))) t (d + j) := Or.inr (fun T hT => by
          rw [hz] at hT
          have hT' : T = t := hT
          rw [hT']
          exact ⟨_, rfl, n1⟩)
        have hx5 : ∀ p, mX (vJ m4 30 4 (lz (omn o (knV M g c t)))) fw p = mX m3 fw p := fun p => by
          show m4.2.2.1 fw p = m3.2.2.1 fw p
          rw [r2.2.2.1]
        refine ⟨_, some (omn o (knV M g c t)), rfl, (g3.trans r2.gw).trans gw5, ⟨?_, ?_, ?_, fun x hx => ?_, fun e' t' p' h1 h2 h3 h4 h5 h6 => ?_⟩, hlo, hdn, fun p => by rw [hx5]; exact hcell p⟩
        · show m4.1 30 3 = nI s
          rw [r2.1]
          exact hI3.1
        · show u2 m4.2.1 30 4 (lz (omn o (knV M g c t))) 30 4 = _
          rw [u2_s]
          rfl
        · show u2 m4.2.1 30 4 (lz (omn o (knV M g c t))) 30 5 = _
          unfold u2
          rw [if_neg (by omega), r2.2.1]
          exact hI3.2.2.1
        · have hx' : omn o (knV M g c t) = x := Option.some.inj hx
          rcases n3 with w | w
          · rw [← hx', w]
            exact ⟨r4, t, hrt t rfl, rfl⟩
          · rw [hx'] at w
            exact hI.2.2.2.1 x w
        · rw [hx5] at h6
          rcases f5 p' with w | ⟨w, _⟩
          · exact Dn_mono hlo (hI.2.2.2.2 e' t' p' h1 h2 h3 h4 h5 (w.symm.trans h6))
          · have hi := plS_inj hM (Tc_dm (by omega) h3) htd h4 w
            rw [hi.1, hi.2]
            exact hdn
      | succ r =>
        have hdj : d + j < qD M := by omega
        have hqd : qD M - (r + 1) = d + j := by omega
        rw [if_pos (nI_lt hdj (by omega))]
        have hA := hM.2.2.2.2.2.2.1 (d + j) hdj
        obtain ⟨⟨m', o'⟩, ⟨i1, i2, i3, i4, i5⟩, e⟩ := loopE (fun f (x : Mm × Option Int) a => f_Rows_walkOn_L75 N S (fR_Rows_walkOn N S q) (cs c d) (cs t (d + j)) (33 + 3 * (3 * g + qB M)) (nI (d + j)) (fun (z11_7 : Int32) (m11 : Mm) => some m11) f (nI a) x.1) (fun x a => Gw M S fw m3 x.1 ∧ Iw M g c d s fl fw W r0 t0 x.1 x.2 (d + j + 1) ∧ (∀ v, lowr o v → lowr x.2 v) ∧ (∀ a', a' < a → Dn M g c fl x.2 (tst M t (d + j) a') (d + j + 1)) ∧ ∀ p, mX x.1 fw p = mX m3 fw p ∨ (mX x.1 fw p = nI s ∧ ∃ t' e', d + j + 1 ≤ e' ∧ Dm M t' ∧ plS M t' e' = some p)) (qA M (d + j)) (fun x => some x.1) (fun f x a ha hJ => by
          show ∃ x' : Mm × Option Int, _ ∧ f_Rows_walkOn_L75 N S (fR_Rows_walkOn N S q) (cs c d) (cs t (d + j)) (33 + 3 * (3 * g + qB M)) (nI (d + j)) _ (f + 1) (nI a) x.1 = _
          obtain ⟨i1, i2, i3, i4, i5⟩ := hJ
          have hex := i1.env hfo he3
          rw [f_Rows_walkOn_L75, tW_alts hM hex.1 hdj, b1_s, if_neg (nI_ge ha (by omega)), tC_traced hM hE hex.1 hex.2.2.1 htd.1 hdj ha, b1_s]
          obtain ⟨m5, o5, k1, k2, k3, k4, k5, k6⟩ := ih r (j + 1) (tst M t (d + j) a) x.1 x.2 (by omega) (by omega) (Tc_tst hM hE (by omega) hdj ha ht) (fun T hT => hrt T ⟨a, by rw [hqd]; exact ha, by rw [hqd]; exact hT⟩) hex (fun b' hb' => i1.2.2.2.2.1 g b' hg (by omega) (hTE3 b' hb')) i2
          have k1' : fR_Rows_walkOn N S q (cs c d) (cs (tst M t (d + j) a) (d + j + 1)) (33 + 3 * (3 * g + qB M)) x.1 = some m5 := k1
          rw [k1', b3_s, nI_1]
          refine ⟨(m5, o5), ⟨i1.trans k2, k3, fun v hv => k4 v (i3 v hv), fun a' ha' => ?_, fun p => ?_⟩, rfl⟩
          · by_cases w : a' = a
            · rw [w]; exact k5
            · exact Dn_mono k4 (i4 a' (by omega))
          · rcases k6 p with w | w
            · rcases i5 p with w' | w'
              · exact Or.inl (w.trans w')
              · exact Or.inr ⟨w.trans w'.1, w'.2⟩
            · exact Or.inr w) (fun f x hJ => by
          show f_Rows_walkOn_L75 N S (fR_Rows_walkOn N S q) (cs c d) (cs t (d + j)) (33 + 3 * (3 * g + qB M)) (nI (d + j)) _ (f + 1) (nI (qA M (d + j))) x.1 = _
          have hex := hJ.1.env hfo he3
          rw [f_Rows_walkOn_L75, tW_alts hM hex.1 hdj, b1_s, if_pos (nI_le (Nat.le_refl _) (by omega))]) (qA M (d + j)) N (m3, o) 0 (by omega) (by omega) ⟨Gw.refl, hI3, fun _ h => h, fun a' ha' => by omega, fun p => Or.inl rfl⟩
        have hdn : Dn M g c fl o' t (d + j) := by
          by_cases w : lowr o' fl
          · exact Or.inl w
          · refine Or.inr (fun T hT => ?_)
            rw [show qD M - (d + j) = r + 1 by omega] at hT
            obtain ⟨a, a1, a2⟩ := hT
            rw [hqd] at a1 a2
            rcases i4 a a1 with z | z
            · exact absurd z w
            · exact z T (by rw [show qD M - (d + j + 1) = r by omega]; exact a2)
        refine ⟨m', o', e, g3.trans i1, ⟨i2.1, i2.2.1, i2.2.2.1, i2.2.2.2.1, fun e' t' p' h1 h2 h3 h4 h5 h6 => ?_⟩, i3, hdn, fun p => ?_⟩
        · by_cases w : d + j + 1 ≤ e'
          · exact i2.2.2.2.2 e' t' p' w h2 h3 h4 h5 h6
          · have hdm := Tc_dm (by omega) h3
            rcases i5 p' with z | ⟨_, t2, e2, z1, z2, z3⟩
            · rcases f5 p' with y | ⟨y, _⟩
              · exact Dn_mono i3 (hI.2.2.2.2 e' t' p' h1 h2 h3 h4 h5 ((z.trans y).symm.trans h6))
              · have hi := plS_inj hM hdm htd h4 y
                rw [hi.1, hi.2]
                exact hdn
            · have := (plS_inj hM hdm z2 h4 z3).2
              omega
        · rcases i5 p with z | ⟨z0, t2, e2, z1, z2, z3⟩
          · rcases hcell p with y | y
            · exact Or.inl (z.trans y)
            · exact Or.inr ⟨z.trans y.1, y.2⟩
          · exact Or.inr ⟨z0, t2, e2, by omega, z2, z3⟩
end CWALK2
