/-! PROOF: the comers that hold it down, and the gifts. -/
/-- the first that is least -/
def fam (f : Nat → Int) (n : Nat) : Nat := fo (fun l a => if f l ≤ f a then l else a) 0 1 (n - 1)
theorem fam_is (f : Nat → Int) : ∀ n, fam f (n + 1) < n + 1 ∧ (∀ i, i < n + 1 → f (fam f (n + 1)) ≤ f i) ∧ ∀ i, i < fam f (n + 1) → f (fam f (n + 1)) < f i
  | 0 => ⟨by show (0 : Nat) < 1; omega, fun i hi => by rw [show i = 0 by omega]; exact Int.le_refl _, fun i hi => by have : i < 0 := hi; omega⟩
  | n + 1 => by
    obtain ⟨h1, h2, h3⟩ := fam_is f n
    have e : fam f (n + 1 + 1) = if f (fam f (n + 1)) ≤ f (n + 1) then fam f (n + 1) else n + 1 := by
      show fo _ 0 1 (n + 1) = _
      rw [fo_s, Nat.add_comm 1 n]
      rfl
    rw [e]
    by_cases q : f (fam f (n + 1)) ≤ f (n + 1)
    · rw [if_pos q]
      refine ⟨by omega, fun i hi => ?_, h3⟩
      by_cases w : i = n + 1
      · rw [w]; exact q
      · exact h2 i (by omega)
    · rw [if_neg q]
      refine ⟨by omega, fun i hi => ?_, fun i hi => ?_⟩
      · by_cases w : i = n + 1
        · rw [w]; exact Int.le_refl _
        · have := h2 i (by omega); omega
      · have := h2 i (by omega); omega
theorem fam_sp {f : Nat → Int} {n : Nat} (h : 0 < n) : fam f n < n ∧ (∀ i, i < n → f (fam f n) ≤ f i) ∧ ∀ i, i < fam f n → f (fam f n) < f i := by
  obtain ⟨k, rfl⟩ : ∃ k, n = k + 1 := ⟨n - 1, by omega⟩
  exact fam_is f k
theorem fam_min {f : Nat → Int} {n : Nat} (h : 0 < n) : minA n f = f (fam f n) := by
  obtain ⟨h1, h2, _⟩ := fam_sp (f := f) h
  obtain ⟨a1, _, a3⟩ := minA_is f n
  rcases a3 with ⟨i, hi, e⟩ | ⟨e, _⟩
  · have b1 := a1 _ h1
    have b2 := h2 i hi
    omega
  · omega
noncomputable def pF (M : Mt) (g d : Nat) : Nat → Int := vS M false (qO M) g (qB M) (qD M - (d + 1))
noncomputable def pal (M : Mt) (g c d : Nat) : Nat := fam (fun a => aft M (qO M) (pF M g d) c d a) (qA M d)
noncomputable def pgi (M : Mt) (g c d : Nat) : Nat := (amx (fun to => may M c to (qO M)) (fun to => pF M g d (c + 8 ^ (4 * qG M d (pal M g c d) + to))) 4).getD 0
noncomputable def pnx (M : Mt) (g c d : Nat) : Nat := if qK M d (pal M g c d) = 0 then c + 8 ^ (4 * qG M d (pal M g c d) + pgi M g c d) else pas M c d (pal M g c d)
noncomputable def pan (M : Mt) (g c d : Nat) : Nat := 10 * pal M g c d + (if qK M d (pal M g c d) = 0 then pgi M g c d else 9)
noncomputable def psq (M : Mt) (g c d : Nat) : Nat → Nat
  | 0 => c
  | n + 1 => pnx M g (psq M g c d n) (d + n)
theorem pal_lt {M : Mt} (hM : qOk M) {g c d : Nat} (hd : d < qD M) : pal M g c d < qA M d := (fam_sp (by have := (hM.2.2.2.2.2.2.1 d hd).1; omega)).1
theorem pgi_is {M : Mt} (hM : qOk M) (hE : qE M) {g c d : Nat} (hL : Lg M c) : amx (fun to => may M c to (qO M)) (fun to => pF M g d (c + 8 ^ (4 * qG M d (pal M g c d) + to))) 4 = some (pgi M g c d) := by
  unfold pgi
  cases e : amx (fun to => may M c to (qO M)) (fun to => pF M g d (c + 8 ^ (4 * qG M d (pal M g c d) + to))) 4 with
  | none =>
    obtain ⟨x, hx⟩ := gif_some hM hE (ho := qO M) (s := qG M d (pal M g c d)) (F := pF M g d) hL
    have : mxo (fun to => may M c to (qO M)) (fun to => pF M g d (c + 8 ^ (4 * qG M d (pal M g c d) + to))) 4 = some x := hx
    rw [amx_none e] at this
    cases this
  | some b => rfl
theorem Ds_pnx {M : Mt} (hM : qOk M) (hE : qE M) {g c d : Nat} (hd : d < qD M) (h : Ds M (qO M) d c) : Suc M (qO M) c d (pal M g c d) (pnx M g c d) ∧ Ds M (qO M) (d + 1) (pnx M g c d) := by
  have hs : Suc M (qO M) c d (pal M g c d) (pnx M g c d) := by
    unfold Suc pnx
    by_cases q : qK M d (pal M g c d) = 0
    · rw [if_pos q, if_pos q]
      obtain ⟨a1, a2, _, _⟩ := amx_some (pgi_is hM hE (g := g) (d := d) h.1)
      exact ⟨_, a1, a2, rfl⟩
    · rw [if_neg q, if_neg q]
  exact ⟨hs, Ds_suc hM h hd (pal_lt hM hd) hs⟩
theorem Ds_psq {M : Mt} (hM : qOk M) (hE : qE M) {g c d : Nat} (h : Ds M (qO M) d c) : ∀ n, d + n ≤ qD M → Ds M (qO M) (d + n) (psq M g c d n)
  | 0, _ => h
  | n + 1, hn => (Ds_pnx hM hE (show d + n < qD M by omega) (Ds_psq hM hE h n (by omega))).2
section CPROOF
variable {N : Nat} {M : Mt}
theorem tC_worst (hM : qOk M) (hE : qE M) (hN : 1000000 ≤ N) {S : St} {m : Mm} {g c d : Nat} (hg : g < 3) (hd : d < qD M) (hc : Ds M (qO M) d c) (hC : CIb M S m) (hR : Rdy M S m g 0) : ∃ m', f_Sight_worstAlt N S (61 + 3 * (4 * g + 0)) (cs c d) (nI d) m = some (nI (pal M g c d), m') ∧ Gd M S m m' := by
  have hD := hM.2.1
  have hA := hM.2.2.2.2.2.2.1 d hd
  obtain ⟨m1, e1, hG⟩ := tS_least (N := N) hM hE (by omega) (tS_rec (N := N) hM hE (by omega) 8) hg (show 0 < 4 by omega) hd (by omega) hc hC.2.1 hR
  have e1' : f_Sight_least N S (61 + 3 * (4 * g + 0)) (cs c d) (nI d) m = some (lz (minA (qA M d) (fun a => aft M (qO M) (pF M g d) c d a)), m1) := e1
  have hpl := pal_lt hM (g := g) (c := c) hd
  obtain ⟨f1, f2, f3⟩ := fam_sp (f := fun a => aft M (qO M) (pF M g d) c d a) (n := qA M d) (by omega)
  have hmin : minA (qA M d) (fun a => aft M (qO M) (pF M g d) c d a) = aft M (qO M) (pF M g d) c d (pal M g c d) := fam_min (by omega)
  have hsm : ∀ a, a < qA M d → sm6 (aft M (qO M) (pF M g d) c d a) := fun a ha => aK_sm (g := g) (k := 0) hM hE hd hc ha
  unfold f_Sight_worstAlt
  rw [e1', b2_s, hmin]
  obtain ⟨k, hk⟩ : ∃ k, qA M d = k + 1 := ⟨qA M d - 1, by omega⟩
  refine loopP (fun n (x : Mm) j => f_Sight_worstAlt_L11 N S (61 + 3 * (4 * g + 0)) (cs c d) (nI d) (lz (aft M (qO M) (pF M g d) c d (pal M g c d))) (fun (z6_6 : Int32) (m6 : Mm) => some (z6_6, m6)) n (nI j) x) (fun x j => j ≤ pal M g c d ∧ Gd M S m x) (fun o => ∃ m', o = some (nI (pal M g c d), m') ∧ Gd M S m m') k (fun n x j hj hI => ?_) (fun n x hI => ?_) k N m1 0 (by omega) (by omega) ⟨Nat.zero_le _, hG⟩
  · show (∃ m', f_Sight_worstAlt_L11 N S (61 + 3 * (4 * g + 0)) (cs c d) (nI d) _ _ (n + 1) (nI j) x = _ ∧ _) ∨ ∃ x', _ ∧ f_Sight_worstAlt_L11 N S (61 + 3 * (4 * g + 0)) (cs c d) (nI d) _ _ (n + 1) (nI j) x = _
    have he' := hI.2.env hC.2.1
    obtain ⟨m2, e2, hG2⟩ := tS_after (N := N) hM hE (by omega) (tS_rec (N := N) hM hE (by omega) 8) hg (show 0 < 4 by omega) hd (by omega) hc (show j < qA M d by omega) he' (hR.gd hM hg (by omega) hI.2)
    have e2' : f_Sight_afterAlt N S (61 + 3 * (4 * g + 0)) (cs c d) (nI d) (nI j) x = some (lz (aft M (qO M) (pF M g d) c d j), m2) := e2
    rw [f_Sight_worstAlt_L11, tW_alts hM he'.1 hd, b1_s, hk, nI_pred, if_neg (nI_ge hj (by omega)), e2', b2_s]
    by_cases q : j = pal M g c d
    · rw [q, if_pos rfl]
      exact Or.inl ⟨m2, rfl, hI.2.trans hG2⟩
    · have hlt : aft M (qO M) (pF M g d) c d (pal M g c d) < aft M (qO M) (pF M g d) c d j := f3 j (by have := hI.1; exact Nat.lt_of_le_of_ne this q)
      refine Or.inr ⟨m2, ⟨by have := hI.1; omega, hI.2.trans hG2⟩, ?_⟩
      rw [if_neg (fun w => by have := (lz_eq (hsm j (by omega)) (hsm _ hpl)).mp w; omega), nI_1]
  · show ∃ m', f_Sight_worstAlt_L11 N S (61 + 3 * (4 * g + 0)) (cs c d) (nI d) _ _ (n + 1) (nI k) x = _ ∧ _
    have he' := hI.2.env hC.2.1
    have hkp : k = pal M g c d := by have := hI.1; omega
    rw [f_Sight_worstAlt_L11, tW_alts hM he'.1 hd, b1_s, hk, nI_pred, if_pos (nI_le (Nat.le_refl _) (by omega)), hkp]
    exact ⟨x, rfl, hI.2⟩
theorem tC_proof (hM : qOk M) (hE : qE M) (hN : 1000000 ≤ N) {S : St} {m : Mm} {g k c d : Nat} (hg : g < 3) (h6 : mI m 0 6 = 1) (hC : CIb M S m) (hn : CN m c d none) (hw : NW M c d none) (hk : k < qD M - d) : ∃ m' S', f_SC_proof N S (nI g) (nI k) m = some (nI (pan M g (psq M g c d k) (d + k)), m', S') ∧ Rq1 M S m S' m' 4 := by
  have hD := hM.2.1
  have hDs : Ds M (qO M) d c := ⟨hw.1, hw.2.2.2.1, hw.2.2.1⟩
  obtain ⟨m1, S1, e1, r1, hR, _⟩ := t_bookSight (k := 0) hM hE hN hg (by omega) hC
  have hn1 := r1.2.1.cn hn
  obtain ⟨m2, hG, e⟩ := loopE (fun n (x : Mm) j => f_SC_proof_L44 N S1 (nI k) (61 + 3 * (4 * g + 0)) (fun (z19_4 : Int64) (z19_6 : Int32) (z19_7 : Int32) (m19 : Mm) => some (z19_6, m19, S1)) n (cs (psq M g c d j) (d + j)) (if j = 0 then -1 else nI (pan M g (psq M g c d (j - 1)) (d + (j - 1)))) (nI j) x) (fun x _ => Gd M S1 m1 x) (k + 1) (fun x => some (nI (pan M g (psq M g c d k) (d + k)), x, S1)) (fun n x j hj hI => by
    show ∃ x', _ ∧ f_SC_proof_L44 N S1 (nI k) (61 + 3 * (4 * g + 0)) _ (n + 1) _ _ (nI j) x = _
    have hd : d + j < qD M := by omega
    have hdj := Ds_psq hM hE (g := g) hDs j (by omega)
    obtain ⟨hsuc, hds2⟩ := Ds_pnx hM hE (g := g) hd hdj
    have hC1 := (hI.cib r1.1).1
    have hR1 := hR.gd hM hg (by omega) hI
    obtain ⟨m3, e3, hG3⟩ := tC_worst hM hE hN hg hd hdj hC1 hR1
    have he3 := (hI.trans hG3).env r1.1.2.1
    have hpl := pal_lt hM (g := g) (c := psq M g c d j) hd
    have hq := hM.2.2.2.2.2.2.2 _ _ hd hpl
    have hsq : psq M g c d (j + 1) = pnx M g (psq M g c d j) (d + j) := rfl
    rw [f_SC_proof_L44, if_neg (nI_nlt (by omega) (by omega)), t_dayOf hdj.1.1 (by omega), b1_s, e3, b2_s, tW_thing hM he3.1 hd hpl, b1_s, tW_passed hM he3.1 hdj.1.1 hd hpl, b1_s]
    simp only [jn]
    have e10 : nI (pal M g (psq M g c d j) (d + j)) * 10 = nI (10 * pal M g (psq M g c d j) (d + j)) := by
      rw [show (10 : Int32) = nI 10 from rfl, pk_mul, Nat.mul_comm]
    have ejp : (if j + 1 = 0 then -1 else nI (pan M g (psq M g c d (j + 1 - 1)) (d + (j + 1 - 1)))) = nI (pan M g (psq M g c d j) (d + j)) := by
      rw [if_neg (by omega), Nat.add_sub_cancel]
    unfold qS
    by_cases k0 : qK M (d + j) (pal M g (psq M g c d j) (d + j)) = 0
    · have hs3 := hq.2.2.1 k0
      have hpas : pas M (psq M g c d j) (d + j) (pal M g (psq M g c d j) (d + j)) = psq M g c d j := by unfold pas; rw [if_neg (by omega)]
      obtain ⟨m4, b, e4, ha, hG4⟩ := tC_gift (s := qG M (d + j) (pal M g (psq M g c d j) (d + j))) hM hE hN hg (show 0 < 4 by omega) (hI.trans hG3 |>.cib r1.1).1 (hR.gd hM hg (by omega) (hI.trans hG3)) hdj.1 (show d + j + 1 ≤ qD M by omega) (by have := hdj.2.1; omega) hdj.2.2 hs3
      have ha' : amx (fun to => may M (psq M g c d j) to (qO M)) (fun to => pF M g (d + j) (psq M g c d j + 8 ^ (4 * qG M (d + j) (pal M g (psq M g c d j) (d + j)) + to))) 4 = some b := ha
      have hb : b = pgi M g (psq M g c d j) (d + j) := Option.some.inj (ha'.symm.trans (pgi_is hM hE hdj.1))
      obtain ⟨b4', _, _, _⟩ := amx_some ha'
      refine ⟨m4, (hI.trans hG3).trans hG4, ?_⟩
      rw [if_pos k0, if_neg (nI_m1 (by omega)), hpas, e4, b2_s, if_neg (nI_m1 (by omega)), t_with hs3 (by omega), b1_s, nI_1, e10, nI_add, ejp, hsq]
      have e11 : pnx M g (psq M g c d j) (d + j) = psq M g c d j + 8 ^ (4 * qG M (d + j) (pal M g (psq M g c d j) (d + j)) + b) := by unfold pnx; rw [if_pos k0, hb]
      have e12 : pan M g (psq M g c d j) (d + j) = 10 * pal M g (psq M g c d j) (d + j) + b := by unfold pan; rw [if_pos k0, hb]
      rw [e11, e12]
      rfl
    · refine ⟨m3, hI.trans hG3, ?_⟩
      have e11 : pnx M g (psq M g c d j) (d + j) = pas M (psq M g c d j) (d + j) (pal M g (psq M g c d j) (d + j)) := by unfold pnx; rw [if_neg k0]
      have e12 : pan M g (psq M g c d j) (d + j) = 10 * pal M g (psq M g c d j) (d + j) + 9 := by unfold pan; rw [if_neg k0]
      rw [if_neg k0, if_pos rfl, if_pos rfl, nI_1, e10, show (9 : Int32) = nI 9 from rfl, nI_add, ejp, hsq, e11, e12]
      rfl) (fun n x hI => by
    show f_SC_proof_L44 N S1 (nI k) (61 + 3 * (4 * g + 0)) _ (n + 1) _ _ (nI (k + 1)) x = _
    rw [f_SC_proof_L44, if_pos (nI_lt (by omega) (by omega)), if_neg (by omega), Nat.add_sub_cancel]) (k + 1) N m1 0 (by omega) (by omega) Gd.refl
  refine ⟨m2, S1, ?_, r1.gd hG⟩
  unfold f_SC_proof f_SC_canLookAhead f_SC_daysToCome
  have e1' : f_Book_sight N S (nI g) 0 m = _ := e1
  rw [h6, if_neg (by decide), tC_isGoal hg, b1_s, if_neg (by decide), hn.2, if_pos (show zOpt none = -1 from rfl), b1_s, if_neg (by decide), if_neg (nI_pos (by omega)), hn.1, t_dayOf hw.1.1 (by have := hw.2.1; omega), b1_s, b1_s, hC.2.1.1.2.1, pk_sub hw.2.1, if_pos (nI_lt hk (by omega)), e1']
  show ckc (ShC S1) (ck _ _) = _
  rw [ckc_t r1.1.1, ck_t (sS_mem g hg 0 (by omega)), hn1.1]
  exact e
end CPROOF
