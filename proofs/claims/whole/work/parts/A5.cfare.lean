/-! WAYS: what comes of them; the class. -/
def WyR (M : Mt) (S : St) (m : Mm) (way : Nat) (mean : Bool) (g : Nat) : Prop := CIb M S m ∧ mI m 97 2 = nI way ∧ mI m 97 3 = tf mean ∧ S.1 97 4 = some (33 + 3 * (3 * g + qB M)) ∧ (∀ b', b' ≤ qB M → TE M S m g b') ∧ (way = 4 → Rdy M S m 0 0)
section CFARE
variable {N : Nat} {M : Mt}
theorem WyR.gd {S : St} {m m' : Mm} {way g : Nat} {mean : Bool} (hM : qOk M) (hg : g < 3) (h : WyR M S m way mean g) (hG : Gd M S m m') : WyR M S m' way mean g := by
  have hB := hM.2.2.2.1
  have eI : ∀ a k, mI m' a k = mI m a k := fun a k => by unfold mI; rw [hG.1]
  exact ⟨(hG.cib h.1).1, (eI 97 2).trans h.2.1, (eI 97 3).trans h.2.2.1, h.2.2.2.1, fun b' hb' => hG.2.2.2.2.1 g b' hg (by omega) (h.2.2.2.2.1 b' hb'), fun q => (h.2.2.2.2.2 q).gd hM (by omega) (by omega) hG⟩
def RecW (S : St) (M : Mt) (way : Nat) (mean : Bool) (g : Nat) (rec : Int64 → Mm → Option (Int64 × Mm)) (q : Nat) : Prop := ∀ (c d : Nat) (m : Mm), d ≤ qD M → qD M - d < q → Ds M (qO M) d c → WyR M S m way mean g → ∃ m', rec (cs c d) m = some (lz (oW M way mean g (qD M - d) c), m') ∧ Gd M S m m'
theorem tW_rec (hM : qOk M) (hE : qE M) (hN : 1000000 ≤ N) {S : St} {way : Nat} {mean : Bool} {g : Nat} (hg : g < 3) (hway : way ≤ 4) : ∀ q, RecW S M way mean g (fR_Ways_outcome N S q) q := by
  have hD := hM.2.1
  have hB := hM.2.2.2.1
  have hO := hM.2.2.1
  intro q
  induction q with
  | zero => intro c d m hd hq; omega
  | succ q ih =>
    intro c d m hd hq hc hR
    show ∃ m', fM_Ways_outcome N S (fR_Ways_outcome N S q) (cs c d) m = _ ∧ _
    have he := hR.1.2.1
    unfold fM_Ways_outcome
    rw [t_dayOf hc.1.1 (by omega), b1_s, he.1.2.1]
    by_cases hdd : d < qD M
    · have hA := hM.2.2.2.2.2.2.1 d hdd
      rw [if_pos (nI_lt hdd (by omega))]
      have hds : ∀ a, a < qA M d → Ds M (qO M) (d + 1) (nxW M way (qD M - (d + 1)) c d a) := fun a ha => Ds_suc hM hc hdd ha (nxW_suc hM hE hc.1)
      have hsm : ∀ a, a < qA M d → sm6 (oW M way mean g (qD M - (d + 1)) (nxW M way (qD M - (d + 1)) c d a)) := fun a ha => oW_sm hM hE (by omega) (by rw [show qD M - (qD M - (d + 1)) = d + 1 by omega]; exact hds a ha)
      obtain ⟨m', hG, e⟩ := loopE (fun n (x : Mm) j => f_Ways_outcome_L36 N S (fR_Ways_outcome N S q) (cs c d) (nI d) (fun (z18_4 : Int64) (z18_6 : Int64) (z18_8 : Int32) (m18 : Mm) => (if ((mI m18 97 3)) = 0 then some (z18_6, m18) else some (z18_4, m18))) n (lz (sumA j (fun a => (qC M d a : Int) * oW M way mean g (qD M - (d + 1)) (nxW M way (qD M - (d + 1)) c d a)))) (zM (fun a => oW M way mean g (qD M - (d + 1)) (nxW M way (qD M - (d + 1)) c d a)) j) (nI j) x) (fun x _ => Gd M S m x) (qA M d) (fun x => some (lz (oW M way mean g (qD M - d) c), x)) (fun n x j hj hG => by
        show ∃ x', _ ∧ f_Ways_outcome_L36 N S (fR_Ways_outcome N S q) (cs c d) (nI d) _ (n + 1) _ _ (nI j) x = _
        have hRx := hR.gd hM hg hG
        have hex := hRx.1.2.1
        have hqk := hM.2.2.2.2.2.2.2 d j hdd hj
        -- the state after the gift, and the memory then
        have nxt : ∃ m2, Gd M S x m2 ∧ ∀ (J : Int64 → Mm → Option (Int64 × Mm)), (if qS M d j = -1 then J (cs (pas M c d j) (d + 1)) x else (if mI x 97 2 = 4 then b2 (f_Sight_bestGift N S 61 (cs (pas M c d j) (d + 1)) (qS M d j) x) fun r17 m17 => b1 (f_State_with N (cs (pas M c d j) (d + 1)) (qS M d j) r17) fun r14 => J r14 m17 else b1 (f_Ways_gift N S (cs (pas M c d j) (d + 1)) (qS M d j) x) fun r16 => b1 (f_State_with N (cs (pas M c d j) (d + 1)) (qS M d j) r16) fun r14 => J r14 x)) = J (cs (nxW M way (qD M - (d + 1)) c d j) (d + 1)) m2 := by
          unfold qS nxW
          by_cases k0 : qK M d j = 0
          · have hs := hqk.2.2.1 k0
            have hp : pas M c d j = c := by unfold pas; rw [if_neg (by omega)]
            have hgm := gft_may hM hE (way := way) (n := qD M - (d + 1)) (s := qG M d j) hc.1
            rw [hp]
            by_cases w4 : way = 4
            · obtain ⟨m2, b, e2, ha, hG2⟩ := tC_gift (s := qG M d j) hM hE hN (show 0 < 3 by omega) (show 0 < 4 by omega) hRx.1 (hRx.2.2.2.2.2 w4) hc.1 (show d + 1 ≤ qD M by omega) (by have := hc.2.1; omega) hc.2.2 hs
              have ha' : amx (fun to => may M c to (qO M)) (fun to => vS M false (qO M) 0 (qB M) (qD M - (d + 1)) (c + 8 ^ (4 * qG M d j + to))) 4 = some b := ha
              have hb : gft M way (qD M - (d + 1)) c (qG M d j) = b := by
                unfold gft
                rw [if_pos w4, ha']
                rfl
              have e2' : f_Sight_bestGift N S 61 (cs c (d + 1)) (nI (qG M d j)) x = some (nI b, m2) := e2
              refine ⟨m2, hG2, fun J => ?_⟩
              rw [if_pos k0, if_neg (nI_m1 (by omega)), hRx.2.1, w4, if_pos (show nI 4 = 4 from rfl), e2', b2_s, t_with hs (by rw [← hb]; exact hgm.1), b1_s, if_pos k0]
              rw [w4] at hb
              rw [hb]
            · have hb : gft M way (qD M - (d + 1)) c (qG M d j) = gwy M way c (qG M d j) := by
                unfold gft
                rw [if_neg w4]
              refine ⟨x, Gd.refl, fun J => ?_⟩
              rw [if_pos k0, if_neg (nI_m1 (by omega)), hRx.2.1, if_neg (show ¬ nI way = 4 from fun q => w4 ((nI_eq (b := 4) (by omega) (by omega)).mp q)), tC_wgift hM hE hex.1 hN hRx.2.1 (by omega) hc.1 (show d + 1 < 8 by omega) hs, b1_s, ← hb, t_with hs hgm.1, b1_s, if_pos k0]
          · exact ⟨x, Gd.refl, fun J => by rw [if_neg k0, if_pos rfl, if_neg k0]⟩
        obtain ⟨m2, hG2, eJ⟩ := nxt
        have hR2 := hRx.gd hM hg hG2
        obtain ⟨m3, e3, hG3⟩ := ih (nxW M way (qD M - (d + 1)) c d j) (d + 1) m2 (by omega) (by omega) (hds j hj) hR2
        have he3 := (hR2.gd hM hg hG3).1.2.1
        refine ⟨m3, (hG.trans hG2).trans hG3, ?_⟩
        rw [f_Ways_outcome_L36, tW_alts hM hex.1 hdd, b1_s, if_neg (nI_ge hj (by omega)), tW_thing hM hex.1 hdd hj, b1_s, tW_passed hM hex.1 hc.1.1 hdd hj, b1_s]
        simp only [jn]
        rw [eJ (fun y7 m8 => b2 (fR_Ways_outcome N S q y7 m8) fun r9 m9 => b1 (f_Will_chance N S 10 (nI d) (nI j) m9) fun r10 => f_Ways_outcome_L36 N S (fR_Ways_outcome N S q) (cs c d) (nI d) (fun (z18_4 : Int64) (z18_6 : Int64) (z18_8 : Int32) (m18 : Mm) => (if ((mI m18 97 3)) = 0 then some (z18_6, m18) else some (z18_4, m18))) n (lz (sumA j (fun a => (qC M d a : Int) * oW M way mean g (qD M - (d + 1)) (nxW M way (qD M - (d + 1)) c d a))) + r10.toInt64 * r9) (if r9 < zM (fun a => oW M way mean g (qD M - (d + 1)) (nxW M way (qD M - (d + 1)) c d a)) j then r9 else zM (fun a => oW M way mean g (qD M - (d + 1)) (nxW M way (qD M - (d + 1)) c d a)) j) (nI j + 1) m9), e3, b2_s, tW_chance hM he3.1 hdd hj, b1_s, nI_lz (by omega), lz_mul, lz_add, ← sumA_s j (fun a => (qC M d a : Int) * oW M way mean g (qD M - (d + 1)) (nxW M way (qD M - (d + 1)) c d a)), zM_step (f := fun a => oW M way mean g (qD M - (d + 1)) (nxW M way (qD M - (d + 1)) c d a)) (fun i hi => hsm i (by omega)), nI_1]) (fun n x hG => by
        show f_Ways_outcome_L36 N S (fR_Ways_outcome N S q) (cs c d) (nI d) _ (n + 1) _ _ (nI (qA M d)) x = _
        have hRx := hR.gd hM hg hG
        rw [f_Ways_outcome_L36, tW_alts hM hRx.1.2.1.1 hdd, b1_s, if_pos (nI_le (Nat.le_refl _) (by omega)), hRx.2.2.1]
        obtain ⟨k, hk⟩ : ∃ k, qD M - d = k + 1 := ⟨qD M - d - 1, by omega⟩
        have e1 : qD M - (k + 1) = d := by omega
        have e2 : qD M - (d + 1) = k := by omega
        rw [hk, oW, e1, e2]
        cases mean with
        | false =>
          rw [if_pos tf_f, if_neg (by decide)]
          unfold zM
          rw [if_neg (show ¬ qA M d = 0 by omega)]
        | true => rw [if_neg (by rw [tf_t]; decide), if_pos rfl]) (qA M d) N m 0 (by omega) (by omega) Gd.refl
      exact ⟨m', e, hG⟩
    · have ed : d = qD M := by omega
      obtain ⟨m1, e1, e2⟩ := tE_value (N := N) hM hE (by omega) hg (show qB M < 3 by omega) (by have := hc.2.2; omega) hc.1 (show d < 8 by omega) he hR.2.2.2.2.1
      refine ⟨m1, ?_, e2⟩
      rw [if_neg (nI_nlt (by omega) (by omega)), hR.2.2.2.1, b1_s, e1, b2_s, show qD M - d = 0 by omega, oW]
theorem t_bookWays (hM : qOk M) (hE : qE M) (hN : 1000000 ≤ N) {S : St} {m : Mm} {way g : Nat} {mean : Bool} (hg : g < 3) (hway : way ≤ 4) (hC : CIb M S m) : ∃ m' S', f_Book_ways N S (nI way) (nI g) (tf mean) m = some (97, m', S') ∧ Rq1 M S m S' m' 8 ∧ WyR M S' m' way mean g := by
  have hB := hM.2.2.2.1
  -- the sight of SHARE, where it is wanted
  have first : ∃ m1 S1, Rq1 M S m S1 m1 4 ∧ (way = 4 → S1.1 61 4 = some (33 + 3 * (3 * 0 + kbk M 0)) ∧ ¬ mI m1 62 1 = 0 ∧ ∀ b', b' ≤ kbk M 0 → ¬ mI m1 (34 + 3 * (3 * 0 + b')) 1 = 0) ∧ ∀ (J : Mm → St → Option (Nat × Mm × St)), (if nI way = 4 then b4 (f_Book_sight N S 0 0 m) fun r6 m6 S6 => ckc (ShC S6) (ck (r6 ∈ sKl) (J m6 S6)) else J m S) = J m1 S1 := by
    by_cases w4 : way = 4
    · obtain ⟨m1, S1, e1, r1, hR, hf1, hf2⟩ := t_bookSight (g := 0) (k := 0) hM hE hN (by omega) (by omega) hC
      have e1' : f_Book_sight N S 0 0 m = _ := e1
      refine ⟨m1, S1, r1, fun _ => ⟨hR.1, hf1, hf2⟩, fun J => ?_⟩
      rw [if_pos (show nI way = 4 by rw [w4]; rfl), e1']
      show ckc (ShC S1) (ck _ _) = _
      rw [ckc_t r1.1.1, ck_t (sS_mem 0 (by omega) 0 (by omega))]
    · exact ⟨m, S, ⟨hC, FrC.refl, Pay.refl.mono (by omega)⟩, fun q => absurd q w4, fun J => by rw [if_neg (show ¬ nI way = 4 from fun q => w4 ((nI_eq (b := 4) (by omega) (by omega)).mp q))]⟩
  obtain ⟨m1, S1, r1, hR1, eJ⟩ := first
  obtain ⟨m2, S2, e2, r2, hTE, _⟩ := t_bookEnds hM hE hN hg (show qB M < 3 by omega) r1.1
  have hmE := eE_mem g hg (qB M) (by omega)
  obtain ⟨h3, h4⟩ := CIb_sE (s := 97) (Or.inr rfl) hmE r2.1
  have hS2 : ShC (sR S2 97 4 (33 + 3 * (3 * g + qB M))) := h3.1
  generalize hm3 : vI (vI m2 97 2 (nI way)) 97 3 (tf mean) = m3
  have c1 : ∀ a k, ¬ a = 97 → m3.1 a k = m2.1 a k := fun a k q => by
    rw [← hm3]
    show u2 (u2 m2.1 97 2 (nI way)) 97 3 (tf mean) a k = _
    rw [u2_a _ _ _ _ q, u2_a _ _ _ _ q]
  have c3 : m3.2 = m2.2 := by rw [← hm3]; rfl
  have hC3 : CIb M (sR S2 97 4 (33 + 3 * (3 * g + qB M))) m3 := by
    obtain ⟨d1, d2, d3, d4, d5⟩ := h3
    refine ⟨d1, Env_f (fun a k _ q _ _ => c1 a k q) (fun a _ => by rw [c3]) d2.2.2.2.2 d2, d3, fun g' b' hg' hb' => ?_, fun g' k' hg' hk' => ?_⟩
    · have : mI m3 (34 + 3 * (3 * g' + b')) 1 = mI m2 (34 + 3 * (3 * g' + b')) 1 := c1 _ _ (by omega)
      rw [this]
      exact (d4 g' b' hg' hb').imp id (TE_of (fun f hf => ⟨hf, rfl, fun p => by unfold mYy; rw [c3]⟩))
    · have : mI m3 (62 + 3 * (4 * g' + k')) 1 = mI m2 (62 + 3 * (4 * g' + k')) 1 := c1 _ _ (by omega)
      rw [this]
      exact (d5 g' k' hg' hk').imp id (TS_of (fun f hf => ⟨hf, rfl, fun p => by unfold mYy; rw [c3]⟩))
  have hfr : FrC m2 m3 := ⟨fun a k q => c1 a k (by omega), fun k => by rw [c3], fun a _ => by rw [c3], fun a _ => by rw [c3], fun a i => by rw [c3]; exact Or.inl rfl⟩
  refine ⟨m3, sR S2 97 4 (33 + 3 * (3 * g + qB M)), ?_, ⟨hC3, (r1.2.1.trans r2.2.1).trans hfr, ((r1.2.2.trans r2.2.2.1).trans h4).mono (by omega)⟩, hC3, ?_, ?_, by show u2 S2.1 97 4 (some (33 + 3 * (3 * g + qB M))) 97 4 = _; rw [u2_s], fun b' hb' => ?_, fun q => ?_⟩
  · unfold f_Book_ways
    simp only [jn]
    rw [eJ (fun m1 S2 => b4 (f_Book_ends N S2 (nI g) ((mI m1 10 3)) m1) fun r3 m3 S3 => ckc (ShC S3) (ck (r3 ∈ eKl) (b5 (f_Ways_goBy N S3 (nI way) (tf mean) r3 m3) fun m4 S4 => ckc (ShC S4) (some (97, m4, S4))))), r1.1.2.1.1.2.2.2.1, e2]
    show ckc (ShC S2) (ck _ _) = _
    rw [ckc_t r2.1.1, ck_t hmE]
    unfold f_Ways_goBy
    simp only [jn]
    rw [ck_t (tf_or mean), ckc_t hS2, hm3]
    show ckc (ShC _) _ = _
    rw [ckc_t hS2]
  · rw [← hm3]
    show u2 (u2 m2.1 97 2 (nI way)) 97 3 (tf mean) 97 2 = _
    rw [u2_k _ _ _ _ (by omega), u2_s]
  · rw [← hm3]
    show u2 (u2 m2.1 97 2 (nI way)) 97 3 (tf mean) 97 3 = _
    rw [u2_s]
  · exact TE_of (S := sR S2 97 4 (33 + 3 * (3 * g + qB M))) (m := m2) (fun f hf => ⟨hf, rfl, fun p => by unfold mYy; rw [c3]⟩) (TE_sR (hTE b' hb'))
  · obtain ⟨g1, g2, g3⟩ := hR1 q
    have hkb := kbk_lt hM 0
    have f61 : ¬ mI m3 62 1 = 0 := by
      have : mI m3 62 1 = mI m2 62 1 := c1 62 1 (by omega)
      rw [this]
      exact r2.2.2.2.2.2.1 62 (by decide) g2
    have f34 : ∀ b', b' ≤ kbk M 0 → ¬ mI m3 (34 + 3 * (3 * 0 + b')) 1 = 0 := fun b' hb' => by
      have : mI m3 (34 + 3 * (3 * 0 + b')) 1 = mI m2 (34 + 3 * (3 * 0 + b')) 1 := c1 _ 1 (by omega)
      rw [this]
      exact r2.2.2.2.2.2.1 _ (tE_mem 0 (by omega) b' (by omega)) (g3 b' hb')
    refine ⟨?_, fun b' hb' => ?_, ?_⟩
    · show u2 S2.1 97 4 (some (33 + 3 * (3 * g + qB M))) 61 4 = _
      rw [u2_a _ _ _ _ (by omega), r2.2.2.2.2.2.2 61 4 (by decide)]
      exact g1
    · exact (hC3.2.2.2.1 0 b' (by omega) (by omega)).resolve_left (f34 b' hb')
    · exact (hC3.2.2.2.2 0 0 (by omega) (by omega)).resolve_left f61
end CFARE
