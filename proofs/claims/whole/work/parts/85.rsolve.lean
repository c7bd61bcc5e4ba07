/-! THE REFERENCE: values of laid states. -/
theorem LA_m {M : Mt} {ho ov ls : Nat} {m m' : Mm} {G : Gh} {A : Nat → Nat} (h1 : m'.1 0 40 = m.1 0 40) (h2 : m'.1 0 39 = m.1 0 39) (h3 : m'.2.2.1 20 = m.2.2.1 20) (h5 : m'.2.2.1 19 = m.2.2.1 19) (h4 : m'.2.2.2 17 = m.2.2.2 17) (h : LA M ho ov ls m G A) : LA M ho ov ls m' G A := by
  obtain ⟨a1, a2, a3, a4, a5, a6⟩ := h
  refine ⟨BI_m h1 h3 h4 a1, a2, fun x hx => ?_, ?_, a5, a6⟩
  · have := a3 x hx
    unfold mX at *
    rw [h5]
    exact this
  · unfold mI at *
    rw [h2]
    exact a4
/-- the first that is greatest -/
def amx (p : Nat → Bool) (F : Nat → Int) : Nat → Option Nat
  | 0 => none
  | n + 1 => if p n then (match amx p F n with
    | none => some n
    | some b => if F n ≤ F b then some b else some n) else amx p F n
theorem amx_none {p : Nat → Bool} {F : Nat → Int} : ∀ {n : Nat}, amx p F n = none → mxo p F n = none
  | 0, _ => rfl
  | n + 1, h => by
    rw [amx] at h
    rw [mxo]
    by_cases q : p n = true
    · rw [if_pos q] at h
      cases e : amx p F n with
      | none => rw [e] at h; cases h
      | some b =>
        rw [e] at h
        have h' : (if F n ≤ F b then some b else some n) = none := h
        split at h' <;> cases h'
    · rw [if_neg q] at h ⊢
      exact amx_none h
theorem amx_some {p : Nat → Bool} {F : Nat → Int} : ∀ {n b : Nat}, amx p F n = some b → b < n ∧ p b = true ∧ mxo p F n = some (F b) ∧ ∀ i, i < b → p i = true → F i < F b
  | 0, _, h => by cases h
  | n + 1, b, h => by
    rw [amx] at h
    rw [mxo]
    by_cases q : p n = true
    · rw [if_pos q] at h ⊢
      cases e : amx p F n with
      | none =>
        rw [e] at h
        have hb : n = b := Option.some.inj h
        subst hb
        rw [amx_none e]
        exact ⟨by omega, q, rfl, fun i hi hp => by
          have := mxo_none (amx_none e) i hi
          rw [this] at hp
          cases hp⟩
      | some b' =>
        obtain ⟨a1, a2, a3, a4⟩ := amx_some e
        rw [e] at h
        have h' : (if F n ≤ F b' then some b' else some n) = some b := h
        rw [a3]
        show b < n + 1 ∧ p b = true ∧ some (if F n < F b' then F b' else F n) = some (F b) ∧ _
        by_cases w : F n ≤ F b'
        · rw [if_pos w] at h'
          have hb : b' = b := Option.some.inj h'
          subst hb
          refine ⟨by omega, a2, ?_, a4⟩
          by_cases w2 : F n < F b'
          · rw [if_pos w2]
          · rw [if_neg w2, show F n = F b' by omega]
        · rw [if_neg w] at h'
          have hb : n = b := Option.some.inj h'
          subst hb
          refine ⟨by omega, q, by rw [if_neg (by omega)], fun i hi hp => ?_⟩
          have := (mxo_isG a3).2 (F i) ⟨i, hi, hp, rfl⟩
          omega
    · rw [if_neg q] at h ⊢
      obtain ⟨a1, a2, a3, a4⟩ := amx_some h
      exact ⟨by omega, a2, a3, a4⟩
theorem amx_f {p : Nat → Bool} {F : Nat → Int} {n : Nat} (hp : p n = false) : amx p F (n + 1) = amx p F n := by rw [amx, hp]; rfl
/-- the values of a layer -/
def WV (m : Mm) (G : Gh) (i : Nat) (F : Nat → Int) : Prop := ∀ k, k < G.1 → G.2.2 k = i → mYy m 18 k = lz (F (G.2.1 k))
section RSOLVE
variable {N : Nat} {M : Mt} {ho ov ls : Nat} {m : Mm} {G : Gh} {A : Nat → Nat}
theorem tR_valueOf (hM : qOk M) (hE : qE M) (hN : 1000000 ≤ N) (hls : ov + ls = qD M) (hA : LA M ho ov ls m G A) {i c : Nat} (hi : i ≤ ls) (hc : InG G i c) {F : Nat → Int} (hF : WV m G i F) : f_Mo_valueOf N (rz c) (nI i) m = some (lz (F c)) := by
  have hD := hM.2.1
  obtain ⟨b1, b2, b3, b4, b5, b6⟩ := hA
  have hn : G.1 ≤ 160000 := b1.1.1
  obtain ⟨k, hk, hl, hLk⟩ := hc
  have hin := (b1.2.1 k hk).2.2.1 i (by omega)
  have hAk := hin.mp hl
  have hAi : A i ≤ 160000 := by omega
  have hAi2 : A (i + 1) ≤ 160000 := by
    by_cases q : i = ls
    · rw [q, b2]; exact hn
    · have := (b1.2.2.2 i (by omega)).2
      rw [b2] at this
      omega
  have hc13 := (b1.1.2.2.1 k hk).2
  rw [hLk] at hc13
  obtain ⟨q, e, hs, hs'⟩ := tR_placeOf hN b1.1 hc13 hAi hAi2
  have hT : (hx c (A i) + q) % 524288 < 524288 := Nat.mod_lt _ (by decide)
  unfold f_Mo_valueOf
  rw [nI_1, ck_t (nI_in (by omega) (by omega)), ck_t (nI_in (by omega) (by omega)), nI_clamp (show i < 2 ^ 31 by omega), nI_clamp (show i + 1 < 2 ^ 31 by omega), b3 i (by omega), b3 (i + 1) (by omega), e, b1_s, ck_t (nI_in hT (by omega)), nI_clamp (show (hx c (A i) + q) % 524288 < 2 ^ 31 by omega)]
  have key : mX m 20 ((hx c (A i) + q) % 524288) = nI (k + 1) := by
    obtain ⟨p, p1, p2⟩ := b1.1.2.2.2.2.2.1 k hk
    rw [hl, hLk] at p1 p2
    rcases hs with h0 | ⟨k', hk', e1, e2, e3, e4⟩
    · exfalso
      rcases Nat.lt_trichotomy q p with w | w | w
      · exact p2 q w h0
      · subst w
        rw [p1] at h0
        exact nI_ne0 (by omega) (by omega) h0
      · exact hs' p w (Or.inr ⟨k, hk, p1, hLk, hAk.1, hAk.2⟩)
    · have hl' : G.2.2 k' = i := ((b1.2.1 k' hk').2.2.1 i (by omega)).mpr ⟨e3, e4⟩
      have := b1.1.2.2.2.2.2.2 k k' hk hk' (hl.trans hl'.symm) (hLk.trans e2.symm)
      rw [this]
      exact e1
  rw [key, nI_pred, ck_t (nI_in (show k < 160000 by omega) (by omega)), nI_clamp (by omega), hF k hk hl, hLk]
theorem rz_ne (c : Nat) : ¬ rz c = -1 := by
  have h := rf_lt2 c
  intro e
  have h1 : (rz c).toInt = -1 := by rw [e]; decide
  unfold rz at h1
  rw [pk_lT (by omega)] at h1
  omega
/-- the state after a gift, or none -/
def zR (o : Option Nat) : Int64 := match o with
  | none => -1
  | some c => rz c
theorem tR_given (hM : qOk M) (hE : qE M) (hN : 1000000 ≤ N) (h3 : ho ≤ 3) (hls : ov + ls = qD M) (hA : LA M ho ov ls m G A) (hX : CxR M ov m) {i c a : Nat} (hi : i < ls) (hc : InG G i c) (hDs : Ds M ho (ov + i) c) (ha : a < qA M (ov + i)) (hk : qK M (ov + i) a = 0) {F : Nat → Int} (hF : WV m G (i + 1) F) (hsm : ∀ c', Ds M ho (ov + (i + 1)) c' → sm6 (F c')) : ∃ b, amx (fun to => may M c to ho) (fun to => F (c + 8 ^ (4 * qG M (ov + i) a + to))) 4 = some b ∧ f_Mo_given N (rz c) (nI i) (nI a) (nI ho) m = some (rz (c + 8 ^ (4 * qG M (ov + i) a + b))) := by
  have hD := hM.2.1
  have hd : ov + i < qD M := by omega
  have hs := (hM.2.2.2.2.2.2.2 _ a hd ha).2.2.1 hk
  have hin : ∀ to, to < 4 → may M c to ho = true → InG G (i + 1) (c + 8 ^ (4 * qG M (ov + i) a + to)) := fun to h4 hm => hA.2.2.2.2.2 i c a _ hi hc ha (by
    unfold Suc
    rw [if_pos hk]
    exact ⟨to, h4, hm, rfl⟩)
  have hval : ∀ to, to < 4 → may M c to ho = true → f_Mo_valueOf N (rz (c + 8 ^ (4 * qG M (ov + i) a + to))) (nI (i + 1)) m = some (lz (F (c + 8 ^ (4 * qG M (ov + i) a + to)))) := fun to h4 hm => tR_valueOf hM hE hN hls hA (by omega) (hin to h4 hm) hF
  have hsm2 : ∀ to, to < 4 → may M c to ho = true → sm6 (F (c + 8 ^ (4 * qG M (ov + i) a + to))) := fun to h4 hm => hsm _ (Ds_give hDs.1 (by have := hDs.2.1; omega) (by omega) hDs.2.2 hs h4 hm)
  unfold f_Mo_given
  rw [hX.2, nI_add, tR_alt2 hM hX.1 hd ha, b1_s]
  have eqT : qT M (ov + i) a = nI (qG M (ov + i) a) := by unfold qT; rw [if_neg (by omega)]
  rw [eqT]
  obtain ⟨_, _, e⟩ := loopE (fun n (_ : Unit) to => f_Mo_given_L23 N (rz c) (nI i) (nI ho) (nI (qG M (ov + i) a)) m (fun (z10_7 : Int64) (z10_9 : Int32) => some z10_7) n (zR ((amx (fun to => may M c to ho) (fun to => F (c + 8 ^ (4 * qG M (ov + i) a + to))) to).map (fun b => c + 8 ^ (4 * qG M (ov + i) a + b)))) (nI to)) (fun _ _ => True) 4 (fun _ => some (zR ((amx (fun to => may M c to ho) (fun to => F (c + 8 ^ (4 * qG M (ov + i) a + to))) 4).map (fun b => c + 8 ^ (4 * qG M (ov + i) a + b))))) (fun n x to ht _ => by
    show ∃ x', _ ∧ f_Mo_given_L23 N (rz c) (nI i) (nI ho) (nI (qG M (ov + i) a)) m _ (n + 1) _ (nI to) = _
    refine ⟨(), trivial, ?_⟩
    rw [f_Mo_given_L23, if_neg (n3lt ht), tR_mayGive hM hDs.1.2.1 ht (by omega), b1_s]
    cases e1 : may M c to ho
    · rw [if_pos (by simp [tf]), nI_1, amx_f (p := fun to => may M c to ho) e1]
    · rw [if_neg (by simp [tf]), t_Mone hs ht, b1_s, rz_give hDs (Or.inl (by omega)) hs ht, nI_1, nI_1, hval to ht e1, amx, if_pos e1]
      simp only [b1_s]
      cases e2 : amx (fun to => may M c to ho) (fun to => F (c + 8 ^ (4 * qG M (ov + i) a + to))) to with
      | none =>
        show (if zR none = -1 then _ else _) = _
        rw [if_pos (show zR none = -1 from rfl)]
        rfl
      | some b =>
        obtain ⟨a1, a2, a3, a4⟩ := amx_some e2
        show (if rz (c + 8 ^ (4 * qG M (ov + i) a + b)) = -1 then _ else b1 (f_Mo_valueOf N (rz (c + 8 ^ (4 * qG M (ov + i) a + b))) (nI (i + 1)) m) _) = _
        rw [if_neg (rz_ne _), hval b (by omega) a2, b1_s]
        show _ = f_Mo_given_L23 N (rz c) (nI i) (nI ho) (nI (qG M (ov + i) a)) m _ n (zR ((if F (c + 8 ^ (4 * qG M (ov + i) a + to)) ≤ F (c + 8 ^ (4 * qG M (ov + i) a + b)) then some b else some to).map (fun b => c + 8 ^ (4 * qG M (ov + i) a + b)))) (nI (to + 1))
        by_cases w : F (c + 8 ^ (4 * qG M (ov + i) a + to)) ≤ F (c + 8 ^ (4 * qG M (ov + i) a + b))
        · rw [if_pos w, if_pos ((lz_le (hsm2 to ht e1) (hsm2 b (by omega) a2)).mpr w)]
        · rw [if_neg w, if_neg (fun w2 => w ((lz_le (hsm2 to ht e1) (hsm2 b (by omega) a2)).mp w2))]
          rfl) (fun n x _ => by
    show f_Mo_given_L23 N (rz c) (nI i) (nI ho) (nI (qG M (ov + i) a)) m _ (n + 1) _ (nI 4) = _
    rw [f_Mo_given_L23, if_pos n3lt4]) 4 N () 0 (by omega) (by omega) trivial
  cases e2 : amx (fun to => may M c to ho) (fun to => F (c + 8 ^ (4 * qG M (ov + i) a + to))) 4 with
  | none =>
    obtain ⟨x, hx⟩ := gif_some hM hE (ho := ho) (s := qG M (ov + i) a) (F := F) hDs.1
    have : mxo (fun to => may M c to ho) (fun to => F (c + 8 ^ (4 * qG M (ov + i) a + to))) 4 = some x := hx
    rw [amx_none e2] at this
    cases this
  | some b =>
    refine ⟨b, rfl, ?_⟩
    rw [e2] at e
    exact e
theorem gif_amx {F : Nat → Int} {c s b : Nat} (h : amx (fun to => may M c to ho) (fun to => F (c + 8 ^ (4 * s + to))) 4 = some b) : (gif M ho F c s).getD 0 = F (c + 8 ^ (4 * s + b)) := by
  have := (amx_some h).2.2.1
  unfold gif
  rw [this]
  rfl
theorem tR_after (hM : qOk M) (hE : qE M) (hN : 1000000 ≤ N) (h3 : ho ≤ 3) (hls : ov + ls = qD M) (hA : LA M ho ov ls m G A) (hX : CxR M ov m) {i c a : Nat} (hi : i < ls) (hc : InG G i c) (hDs : Ds M ho (ov + i) c) (ha : a < qA M (ov + i)) {F : Nat → Int} (hF : WV m G (i + 1) F) (hsm : ∀ c', Ds M ho (ov + (i + 1)) c' → sm6 (F c')) : f_Mo_after N (rz c) (nI i) (nI a) (nI ho) m = some (lz (aft M ho F c (ov + i) a)) := by
  have hD := hM.2.1
  have hd : ov + i < qD M := by omega
  have hq := hM.2.2.2.2.2.2.2 _ a hd ha
  have hpas : ¬ qK M (ov + i) a = 0 → InG G (i + 1) (pas M c (ov + i) a) := fun k0 => hA.2.2.2.2.2 i c a _ hi hc ha (by
    unfold Suc
    rw [if_neg k0])
  unfold f_Mo_after aft
  rw [hX.2, nI_add, tR_alt1 hM hX.1 hd ha, b1_s]
  by_cases k0 : qK M (ov + i) a = 0
  · obtain ⟨b, e1, e2⟩ := tR_given hM hE hN h3 hls hA hX hi hc hDs ha k0 hF hsm
    obtain ⟨a1, a2, _, _⟩ := amx_some e1
    have hin : InG G (i + 1) (c + 8 ^ (4 * qG M (ov + i) a + b)) := hA.2.2.2.2.2 i c a _ hi hc ha (by
      unfold Suc
      rw [if_pos k0]
      exact ⟨b, a1, a2, rfl⟩)
    rw [if_pos ((nI_k0 hq.2.1).mpr k0), if_pos k0, e2, b1_s, nI_1, tR_valueOf hM hE hN hls hA (by omega) hin hF, b1_s, gif_amx e1]
  · have hv := tR_valueOf hM hE hN hls hA (show i + 1 ≤ ls by omega) (hpas k0) hF
    rw [if_neg (fun w => k0 ((nI_k0 hq.2.1).mp w)), if_neg k0, nI_1]
    by_cases k1 : qK M (ov + i) a = 1
    · have hg := hq.2.2.2 k1
      have hH := hM.1
      have er : rz c ||| lsl 1 (36 + qT M (ov + i) a) = rz (pas M c (ov + i) a) := by
        unfold qT pas
        rw [if_neg (by omega), if_pos k1, show (36 : Int32) + nI (qG M (ov + i) a) = nI (36 + qG M (ov + i) a) from by rw [show (36 : Int32) = nI 36 from rfl, nI_add], show (1 : Int64) = lN 1 from rfl, lsl_n 1 (by omega), Nat.one_mul, rz_or (by omega)]
      rw [if_pos ((nI_k1 hq.2.1).mpr k1), tR_alt2 hM hX.1 hd ha, b1_s, er, hv, b1_s]
    · have er : pas M c (ov + i) a = c := by unfold pas; rw [if_neg k1]
      rw [er] at hv ⊢
      rw [if_neg (fun w => k1 ((nI_k1 hq.2.1).mp w)), hv, b1_s]
end RSOLVE
