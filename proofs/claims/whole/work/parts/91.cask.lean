/-! THE CLASS: what is asked of NOW. -/
section CASK
variable {N : Nat} {M : Mt}
theorem Gd.cib {S : St} {m m' : Mm} (hC : CIb M S m) (h : Gd M S m m') : CIb M S m' ∧ FrC m m' := by
  have eI : ∀ a k, mI m' a k = mI m a k := fun a k => by unfold mI; rw [h.1]
  refine ⟨⟨hC.1, h.env hC.2.1, hC.2.2.1, fun g b hg hb => ?_, fun g k hg hk => ?_⟩, fun a k _ => by rw [h.1], fun k => by rw [h.2.1], fun a _ => by rw [h.2.2.1], fun a ha => h.2.2.2.1 a (fun t ht w => ?_), fun a i => by rw [h.2.2.1]; exact Or.inl rfl⟩
  · rw [eI]
    exact (hC.2.2.2.1 g b hg hb).imp id (h.2.2.2.2.1 g b hg hb)
  · rw [eI]
    exact (hC.2.2.2.2 g k hg hk).imp id (h.2.2.2.2.2 g k hg hk)
  · have h95 := tKl_95 t ht
    obtain ⟨f, hf, hfo, _⟩ := hC.2.1.2.2.2.2.1 t ht
    rw [hf] at w
    have : f = a := Option.some.inj w
    omega
theorem Rq1.gd {S S' : St} {m m1 m2 : Mm} {n : Nat} (h : Rq1 M S m S' m1 n) (hG : Gd M S' m1 m2) : Rq1 M S m S' m2 n := ⟨(hG.cib h.1).1, h.2.1.trans (hG.cib h.1).2, h.2.2⟩
theorem Rq1.trans {S S1 S2 : St} {m m1 m2 : Mm} {n n' : Nat} (h : Rq1 M S m S1 m1 n) (h' : Rq1 M S1 m1 S2 m2 n') : Rq1 M S m S2 m2 (n + n') := ⟨h'.1, h.2.1.trans h'.2.1, h.2.2.trans h'.2.2⟩
/-- the object has NOW so -/
def CN (m : Mm) (c d : Nat) (w : Option Nat) : Prop := mJ m 0 7 = cs c d ∧ mI m 0 8 = zOpt w
theorem FrC.cn {m m' : Mm} {c d : Nat} {w : Option Nat} (h : FrC m m') (hn : CN m c d w) : CN m' c d w := ⟨(h.2.1 7).trans hn.1, (h.1 0 8 (Or.inl rfl)).trans hn.2⟩
theorem vK_v (M : Mt) (g k n : Nat) : vK M g k n = vS M (decide (k = 1)) (kho M k) g (kbk M k) n := rfl
theorem t_worthNow (hM : qOk M) (hE : qE M) (hN : 1000000 ≤ N) {S : St} {m : Mm} {g k c d : Nat} {w : Option Nat} (hg : g < 3) (hk : k < 4) (hC : CIb M S m) (hn : CN m c d w) (hw : NW M c d w) : ∃ m' S', f_SC_worthNow N S (nI g) (nI k) m = some (lz (vNow M (decide (k = 1)) (kho M k) g (kbk M k) (qD M - d) c w), m', S') ∧ Rq1 M S m S' m' 4 := by
  have hO := hM.2.2.1
  obtain ⟨m1, S1, e1, r1, hR, _⟩ := t_bookSight hM hE hN hg hk hC
  have hn1 := r1.2.1.cn hn
  have hho : qO M ≤ kho M k := by unfold kho; split <;> omega
  unfold f_SC_worthNow
  rw [e1]
  show ∃ m' S', ckc (ShC S1) (ck _ _) = _ ∧ _
  rw [ckc_t r1.1.1, ck_t (sS_mem g hg k hk), hn1.2, hn1.1]
  cases w with
  | none =>
    obtain ⟨m2, e2, hG⟩ := tS_worth (N := N) hM hE (by omega) hg hk hw.2.1 ⟨hw.1, hw.2.2.2.1, Nat.le_trans hw.2.2.1 hho⟩ r1.1.2.1 hR
    refine ⟨m2, S1, ?_, r1.gd hG⟩
    rw [if_pos (show zOpt none = -1 from rfl), e2, b2_s]
    rfl
  | some s =>
    obtain ⟨hs, ht⟩ := hw.2.2.2.2 s rfl
    obtain ⟨m2, e2, hG⟩ := tS_given (N := N) hM hE (by omega) (tS_rec (N := N) hM hE (by omega) 8) hg hk hw.2.1 (by have := hM.2.1; omega) hw.1 ht (Nat.le_trans hw.2.2.1 hho) hs r1.1.2.1 hR
    refine ⟨m2, S1, ?_, r1.gd hG⟩
    have e2' : f_Sight_given N S1 (61 + 3 * (4 * g + k)) (cs c d) (nI s) m1 = some (lz ((gif M (kho M k) (vK M g k (qD M - d)) c s).getD 0), m2) := e2
    rw [if_neg (show ¬ zOpt (some s) = -1 from nI_m1 (by omega)), show zOpt (some s) = nI s from rfl, e2', b2_s]
    rfl
theorem tC_isGoal {g : Nat} (hg : g < 3) : f_SC_isGoal N (nI g) = some 1 := by
  unfold f_SC_isGoal
  rw [if_neg (nI_pos (by omega)), if_neg (n3nle hg)]
theorem tC_thou (hM : qOk M) (hN : 1000000 ≤ N) {S : St} {m : Mm} {c d : Nat} {w : Option Nat} {v : Int} (hW : CW m 10 M) (hn : CN m c d w) (hw : NW M c d w) : f_SC_thousandths N S (lz v) m = some (tld true v (qD M - d)) := by
  have hD := hM.2.1
  have hd := hw.2.1
  unfold f_SC_thousandths tld
  rw [hn.1, t_dayOf hw.1.1 (by omega), b1_s, if_pos rfl]
  have := loopF (fun n (x : Nat) j => f_SC_thousandths_L11 N S (lz v) m (fun (z3_3 : Int64) (z3_5 : Int32) => ck (¬ z3_3 = 0) (some (((((lz v * 1000)) / z3_3)).toInt32))) n (lN x) (nI j)) (fun x _ => x * 12) (qD M) (fun x => ck (¬ lN x = 0) (some (((((lz v * 1000)) / lN x)).toInt32))) (fun n x j hj => by
    show f_SC_thousandths_L11 N S (lz v) m _ (n + 1) (lN x) (nI j) = _
    rw [f_SC_thousandths_L11, hW.2.1, if_neg (nI_ge hj (by omega)), nI_1, show (12 : Int64) = lN 12 from rfl, lN_mul]) (fun n x => by
    show f_SC_thousandths_L11 N S (lz v) m _ (n + 1) (lN x) (nI (qD M)) = _
    rw [f_SC_thousandths_L11, hW.2.1, if_pos (nI_le (Nat.le_refl _) (by omega))]) (qD M - d) N 1 d (by omega) (by omega)
  refine this.trans ?_
  have e : ∀ k j a, fo (fun (x : Nat) (_ : Nat) => x * 12) a j k = a * 12 ^ k := by
    intro k
    induction k with
    | zero => intro j a; simp [fo]
    | succ k ih =>
      intro j a
      rw [fo, ih, Nat.pow_succ, Nat.mul_assoc, Nat.mul_comm 12]
  rw [e, Nat.one_mul]
  have h12 := p12 (ls := qD M - d) (by omega)
  rw [ck_t (lN_0 h12.1 (by omega))]
theorem tC_sure (hM : qOk M) (hE : qE M) (hN : 1000000 ≤ N) {S : St} {m : Mm} {mean : Bool} {g c d : Nat} {w : Option Nat} (hg : g < 3) (h6 : mI m 0 6 = 1) (hC : CIb M S m) (hn : CN m c d w) (hw : NW M c d w) : ∃ m' S', f_SC_sure N S (nI g) (tf mean) m = some (tld mean (vNow M mean (qO M) g (qB M) (qD M - d) c w) (qD M - d), m', S') ∧ Rq1 M S m S' m' 4 := by
  unfold f_SC_sure
  rw [h6, if_neg (by decide), tC_isGoal hg, b1_s, if_neg (by decide)]
  cases mean with
  | false =>
    obtain ⟨m1, S1, e1, r1⟩ := t_worthNow (k := 0) hM hE hN hg (by omega) hC hn hw
    refine ⟨m1, S1, ?_, r1⟩
    simp only [jn]
    rw [if_pos tf_f]
    have e1' : f_SC_worthNow N S (nI g) 0 m = _ := e1
    rw [e1']
    show ckc (ShC S1) (if tf false = 0 then _ else _) = _
    rw [ckc_t r1.1.1, if_pos tf_f, lz_i]
    rfl
  | true =>
    obtain ⟨m1, S1, e1, r1⟩ := t_worthNow (k := 1) hM hE hN hg (by omega) hC hn hw
    refine ⟨m1, S1, ?_, r1⟩
    simp only [jn]
    have e1' : f_SC_worthNow N S (nI g) 1 m = _ := e1
    rw [if_neg (show ¬ tf true = 0 by rw [tf_t]; decide), e1']
    show ckc (ShC S1) (if tf true = 0 then _ else _) = _
    rw [ckc_t r1.1.1, if_neg (show ¬ tf true = 0 by rw [tf_t]; decide), tC_thou hM hN r1.1.2.1.1 (r1.2.1.cn hn) hw, b1_s]
    rfl
theorem tC_mended (hM : qOk M) (hE : qE M) (hN : 1000000 ≤ N) {S : St} {m : Mm} {g k c d : Nat} {w : Option Nat} (hg : g < 3) (hk : k < 2) (h6 : mI m 0 6 = 1) (hC : CIb M S m) (hn : CN m c d w) (hw : NW M c d w) : ∃ m' S', f_SC_mended N S (nI g) (nI k) m = some ((lz (vNow M false (kho M (k + 2)) g (kbk M (k + 2)) (qD M - d) c w - vNow M false (qO M) g (qB M) (qD M - d) c w)).toInt32, m', S') ∧ Rq1 M S m S' m' 8 := by
  obtain ⟨m1, S1, e1, r1⟩ := t_worthNow (k := k + 2) hM hE hN hg (by omega) hC hn hw
  obtain ⟨m2, S2, e2, r2⟩ := t_worthNow (k := 0) hM hE hN hg (by omega) r1.1 (r1.2.1.cn hn) hw
  refine ⟨m2, S2, ?_, r1.trans r2⟩
  unfold f_SC_mended
  rw [h6, if_neg (by decide), tC_isGoal hg, b1_s, if_neg (by decide), if_neg (nI_pos (by omega)), if_pos (show nI k ≤ 1 from nI_le (b := 1) (by omega) (by omega))]
  simp only [jn]
  have e3 : ∀ (K : Int32 → Option (Int32 × Mm × St)), (if nI k = 0 then K 2 else K 3) = K (nI (k + 2)) := by
    intro K
    rcases (by omega : k = 0 ∨ k = 1) with rfl | rfl
    · rw [if_pos (show nI 0 = 0 from rfl)]; rfl
    · rw [if_neg (show ¬ nI 1 = 0 by decide)]; rfl
  rw [e3 (fun s6 => b4 (f_SC_worthNow N S (nI g) s6 m) fun r7 m7 S7 => ckc (ShC S7) (b4 (f_SC_worthNow N S7 (nI g) 0 m7) fun r8 m8 S8 => ckc (ShC S8) (some (((r7 - r8)).toInt32, m8, S8)))), e1]
  show ckc (ShC S1) (b4 (f_SC_worthNow N S1 (nI g) (nI 0) m1) _) = _
  rw [ckc_t r1.1.1, e2]
  show ckc (ShC S2) _ = _
  rw [ckc_t r2.1.1, minus_lz]
  have ek : decide (k + 2 = 1) = false := by simp
  rw [ek]
  rfl
theorem tC_reached (hM : qOk M) (hE : qE M) (hN : 1000000 ≤ N) {S : St} {m : Mm} {g c : Nat} (hg : g < 3) (h6 : mI m 0 6 = 1) (hC : CIb M S m) (hn : CN m c (qD M) none) (hw : NW M c (qD M) none) : ∃ m' S', f_SC_reached N S (nI g) m = some (iz (gE M g (qB M) c), m', S') ∧ Rq1 M S m S' m' 3 := by
  have hB := hM.2.2.2.1
  have hO := hM.2.2.1
  have hD := hM.2.1
  obtain ⟨m1, S1, e1, r1, hTE, _⟩ := t_bookEnds hM hE hN hg (show qB M < 3 by omega) hC
  have hn1 := r1.2.1.cn hn
  obtain ⟨m2, e2, hG⟩ := tE_value (N := N) hM hE (by omega) hg (show qB M < 3 by omega) (by have := hw.2.2.1; omega) hw.1 (show qD M < 8 by omega) r1.1.2.1 hTE
  have hq : Rq1 M S m S1 m1 3 := ⟨r1.1, r1.2.1, r1.2.2.1.mono (by omega)⟩
  refine ⟨m2, S1, ?_, hq.gd hG⟩
  unfold f_SC_reached f_SC_canLookAhead f_SC_daysToCome
  rw [h6, if_neg (by decide), tC_isGoal hg, b1_s, if_neg (by decide), hn.2, if_pos (show zOpt none = -1 from rfl), b1_s, if_neg (by decide), hn.1, t_dayOf hw.1.1 (by omega), b1_s, b1_s, hC.2.1.1.2.1, pk_sub (Nat.le_refl _), Nat.sub_self, if_pos (by decide), hC.2.1.1.2.2.2.1, e1]
  show ckc (ShC S1) (ck _ _) = _
  rw [ckc_t r1.1.1, ck_t (eE_mem g hg _ (by omega)), hn1.1, e2, b2_s, lz_i]
/-- the best gift, by a sight that is ready -/
theorem tC_gift (hM : qOk M) (hE : qE M) (hN : 1000000 ≤ N) {S : St} {m : Mm} {g k c d s : Nat} (hg : g < 3) (hk : k < 4) (hC : CIb M S m) (hR : Rdy M S m g k) (hL : Lg M c) (hd : d ≤ qD M) (ht : tt c < d) (hh : hl c ≤ kho M k) (hs : s < 3) : ∃ m' b, f_Sight_bestGift N S (61 + 3 * (4 * g + k)) (cs c d) (nI s) m = some (nI b, m') ∧ amx (fun to => may M c to (kho M k)) (fun to => vK M g k (qD M - d) (c + 8 ^ (4 * s + to))) 4 = some b ∧ Gd M S m m' := by
  have hD := hM.2.1
  have hk3 := kho_le hM k
  obtain ⟨m1, e1, hG⟩ := tS_given (N := N) hM hE (by omega) (tS_rec (N := N) hM hE (by omega) 8) hg hk hd (by omega) hL ht hh hs hC.2.1 hR
  have e1' : f_Sight_given N S (61 + 3 * (4 * g + k)) (cs c d) (nI s) m = some (lz ((gif M (kho M k) (vK M g k (qD M - d)) c s).getD 0), m1) := e1
  have hsm : ∀ to, to < 4 → may M c to (kho M k) = true → Ds M (kho M k) d (c + 8 ^ (4 * s + to)) := fun to h4 hm => Ds_give hL ht (by omega) hh hs h4 hm
  cases e2 : amx (fun to => may M c to (kho M k)) (fun to => vK M g k (qD M - d) (c + 8 ^ (4 * s + to))) 4 with
  | none =>
    obtain ⟨x, hx⟩ := gif_some hM hE (ho := kho M k) (s := s) (F := vK M g k (qD M - d)) hL
    have : mxo (fun to => may M c to (kho M k)) (fun to => vK M g k (qD M - d) (c + 8 ^ (4 * s + to))) 4 = some x := hx
    rw [amx_none e2] at this
    cases this
  | some b =>
    obtain ⟨a1, a2, a3, a4⟩ := amx_some e2
    unfold f_Sight_bestGift
    rw [e1', b2_s, gif_amx e2]
    have key := loopP (fun n (x : Mm) to => f_Sight_bestGift_L11 N S (61 + 3 * (4 * g + k)) (cs c d) (nI s) (lz (vK M g k (qD M - d) (c + 8 ^ (4 * s + b)))) (fun (z9_6 : Int32) (m9 : Mm) => some (3, m9)) n (nI to) x) (fun x to => to ≤ b ∧ Gd M S m x) (fun o => ∃ m', o = some (nI b, m') ∧ Gd M S m m') 3 (fun n x to ht3 hI => by
      show (∃ m', f_Sight_bestGift_L11 N S (61 + 3 * (4 * g + k)) (cs c d) (nI s) _ _ (n + 1) (nI to) x = _ ∧ _) ∨ ∃ x', _ ∧ f_Sight_bestGift_L11 N S (61 + 3 * (4 * g + k)) (cs c d) (nI s) _ _ (n + 1) (nI to) x = _
      have he' := hI.2.env hC.2.1
      rw [f_Sight_bestGift_L11, if_neg (n3nle ht3), tS_holdable he' hg hk, b1_s, tW_mayGive hM he'.1 hL.1 (by omega) (by omega) (by omega), b1_s]
      cases e3 : may M c to (kho M k)
      · refine Or.inr ⟨x, ⟨?_, hI.2⟩, by rw [if_pos (by simp [tf]), nI_1]⟩
        by_cases q : to = b
        · rw [q, a2] at e3; cases e3
        · have := hI.1; omega
      · obtain ⟨m2, e4, hG2⟩ := tS_worth hM hE (show 100 ≤ N by omega) hg hk hd (hsm to (by omega) e3) he' (hR.gd hM hg hk hI.2)
        rw [if_neg (by simp [tf]), t_with hs (by omega), b1_s, e4, b2_s]
        by_cases q : to = b
        · rw [q, if_pos rfl]
          exact Or.inl ⟨m2, rfl, hI.2.trans hG2⟩
        · refine Or.inr ⟨m2, ⟨by have := hI.1; omega, hI.2.trans hG2⟩, ?_⟩
          have hlt := a4 to (by have := hI.1; omega) e3
          rw [if_neg (fun w => by have := (lz_eq (vK_sm hM hE hd (hsm to (by omega) e3)) (vK_sm hM hE hd (hsm b a1 a2))).mp w; omega), nI_1]) (fun n x hI => by
      show ∃ m', f_Sight_bestGift_L11 N S (61 + 3 * (4 * g + k)) (cs c d) (nI s) _ _ (n + 1) (nI 3) x = _ ∧ _
      have hb3 : b = 3 := by have := hI.1; omega
      rw [f_Sight_bestGift_L11, if_pos n3le, hb3]
      exact ⟨x, rfl, hI.2⟩) 3 N m1 0 (by omega) (by omega) ⟨Nat.zero_le _, hG⟩
    obtain ⟨m', e5, hG5⟩ := key
    exact ⟨m', b, e5, rfl, hG5⟩
theorem tC_best2 (hM : qOk M) (hE : qE M) (hN : 1000000 ≤ N) {S : St} {m : Mm} {mean : Bool} {g c d s : Nat} (hg : g < 3) (hC : CIb M S m) (hn : CN m c d (some s)) (hw : NW M c d (some s)) : ∃ m' S' b, f_SC_best N S (nI g) (tf mean) m = some (nI b, m', S') ∧ amx (fun to => may M c to (qO M)) (fun to => vS M mean (qO M) g (qB M) (qD M - d) (c + 8 ^ (4 * s + to))) 4 = some b ∧ Rq1 M S m S' m' 4 := by
  obtain ⟨hs, ht⟩ := hw.2.2.2.2 s rfl
  unfold f_SC_best
  rw [hn.2, if_neg (show ¬ zOpt (some s) = -1 from nI_m1 (by omega)), tC_isGoal hg, b1_s, if_neg (by decide)]
  cases mean with
  | false =>
    obtain ⟨m1, S1, e1, r1, hR, _⟩ := t_bookSight (k := 0) hM hE hN hg (by omega) hC
    have hn1 := r1.2.1.cn hn
    obtain ⟨m2, b, e2, ha, hG⟩ := tC_gift hM hE hN hg (by omega) r1.1 hR hw.1 hw.2.1 ht hw.2.2.1 hs
    refine ⟨m2, S1, b, ?_, ha, r1.gd hG⟩
    have e1' : f_Book_sight N S (nI g) 0 m = _ := e1
    rw [if_pos tf_f, e1']
    show ckc (ShC S1) (ck _ _) = _
    rw [ckc_t r1.1.1, ck_t (sS_mem g hg 0 (by omega)), hn1.1, hn1.2, show zOpt (some s) = nI s from rfl, e2, b2_s]
  | true =>
    obtain ⟨m1, S1, e1, r1, hR, _⟩ := t_bookSight (k := 1) hM hE hN hg (by omega) hC
    have hn1 := r1.2.1.cn hn
    obtain ⟨m2, b, e2, ha, hG⟩ := tC_gift hM hE hN hg (by omega) r1.1 hR hw.1 hw.2.1 ht hw.2.2.1 hs
    refine ⟨m2, S1, b, ?_, ha, r1.gd hG⟩
    have e1' : f_Book_sight N S (nI g) 1 m = _ := e1
    rw [if_neg (show ¬ tf true = 0 by rw [tf_t]; decide), e1']
    show ckc (ShC S1) (ck _ _) = _
    rw [ckc_t r1.1.1, ck_t (sS_mem g hg 1 (by omega)), hn1.1, hn1.2, show zOpt (some s) = nI s from rfl, e2, b2_s]
end CASK
