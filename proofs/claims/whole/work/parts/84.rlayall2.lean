/-! THE REFERENCE: laysAll, whole. -/
/-- all layers are laid: ls days to come; every state's comers are there -/
def LA (M : Mt) (ho ov ls : Nat) (m : Mm) (G : Gh) (A : Nat → Nat) : Prop := BI M ho ov m G A (ls + 1) ∧ A (ls + 1) = G.1 ∧ (∀ x, x ≤ ls + 1 → mX m 19 x = nI (A x)) ∧ mI m 0 39 = nI ls ∧ A 0 = 0 ∧ ∀ i c a c', i < ls → InG G i c → a < qA M (ov + i) → Suc M ho c (ov + i) a c' → InG G (i + 1) c'
theorem vX_o {m : Mm} {a b k : Nat} {v : Int32} (h : b ≠ a) : (vX m a k v).2.2.1 b = m.2.2.1 b := by
  funext j
  exact u2_a _ _ _ _ h
theorem vY_o {m : Mm} {a b k : Nat} {v : Int64} (h : b ≠ a) : (vY m a k v).2.2.2 b = m.2.2.2 b := by
  funext j
  exact u2_a _ _ _ _ h
section RLAYALL2
variable {N : Nat} {M : Mt} {ho ov : Nat}
theorem tR_lay126 (hM : qOk M) (hE : qE M) (hN : 1000000 ≤ N) (h3 : ho ≤ 3) {m : Mm} {G0 : Gh} {A0 : Nat → Nat} {ls : Nat} (hls : ov + ls = qD M) (hB : BI M ho ov m G0 A0 1) (hAG : A0 1 = G0.1) (hA0 : A0 0 = 0) (hX : CxR M ov m) (h39 : mI m 0 39 = nI ls) (hL : ∀ x, x ≤ 1 → mX m 19 x = nI (A0 x)) (K : Int32 → Mm → Option Mm) : ∃ m' G' A', f_Mo_laysAll_L126 N (nI ho) K N 0 m = K (nI ls) m' ∧ LA M ho ov ls m' G' A' ∧ PL m m' ∧ ∀ c, InG G' 0 c ↔ InG G0 0 c := by
  have hD := hM.2.1
  obtain ⟨⟨m', G', A'⟩, ⟨b1, b2, b3, b4, b5, b6, b7, b8⟩, e⟩ := loopE (fun n (x : Mm × Gh × (Nat → Nat)) i => f_Mo_laysAll_L126 N (nI ho) K n (nI i) x.1) (fun x i => BI M ho ov x.1 x.2.1 x.2.2 (i + 1) ∧ x.2.2 (i + 1) = x.2.1.1 ∧ (∀ y, y ≤ i + 1 → mX x.1 19 y = nI (x.2.2 y)) ∧ mI x.1 0 39 = nI ls ∧ x.2.2 0 = 0 ∧ (∀ i' c a c', i' < i → InG x.2.1 i' c → a < qA M (ov + i') → Suc M ho c (ov + i') a c' → InG x.2.1 (i' + 1) c') ∧ PL m x.1 ∧ ∀ c, InG x.2.1 0 c ↔ InG G0 0 c) ls (fun x => K (nI ls) x.1) (fun n x i hi hI => by
    show ∃ x', _ ∧ f_Mo_laysAll_L126 N (nI ho) K (n + 1) (nI i) x.1 = _
    obtain ⟨m1, G1, A1⟩ := x
    obtain ⟨b1, b2, b3, b4, b5, b6, b7, b8⟩ := hI
    have hX' := b7.cxr hX
    have hn := BI_n hM hE b1 (by omega)
    obtain ⟨m2, G2, c0, c1, c2, c3, c4, c5⟩ := tR_lay151 hM hE hN h3 (show ov + (i + 1) ≤ qD M by omega) b1 b2 hX' (fun (z72_4 : Int32) (m72 : Mm) => ck (ix (nI i + 2) 9) (f_Mo_laysAll_L126 N (nI ho) K n ((nI i + 1)) ((vX m72 19 (((nI i + 2)).toNatClampNeg) ((mI m72 0 40))))))
    have e40 : mI m2 0 40 = nI G2.1 := c1.1.2.1
    have hi2 : nI i + 2 = nI (i + 2) := nI_add i 2
    have eX : ∀ a j, mX (vX m2 19 (i + 2) (nI G2.1)) a j = if a = 19 ∧ j = i + 2 then nI G2.1 else mX m2 a j := fun a j => rfl
    refine ⟨(vX m2 19 (i + 2) (nI G2.1), G2, fun x => if x = i + 1 + 1 then G2.1 else A1 x), ⟨?_, ?_, fun y hy => ?_, ?_, ?_, fun i' c a c' h1 h2 h4 h5 => ?_, ?_, fun c => ?_⟩, ?_⟩
    · exact BI_m rfl (vX_o (a := 19) (b := 20) (by omega)) rfl (BI_next c1)
    · show (if i + 1 + 1 = i + 1 + 1 then G2.1 else A1 (i + 1 + 1)) = G2.1
      rw [if_pos rfl]
    · show mX (vX m2 19 (i + 2) (nI G2.1)) 19 y = nI (if y = i + 1 + 1 then G2.1 else A1 y)
      rw [eX]
      by_cases q : y = i + 2
      · rw [if_pos ⟨rfl, q⟩, if_pos (by omega)]
      · rw [if_neg (fun w => q w.2), if_neg (by omega)]
        have : mX m2 19 y = mX m1 19 y := by unfold mX; rw [c2.2.2.1 19 (by omega)]
        rw [this]
        exact b3 y (by omega)
    · have : m2.1 0 39 = m1.1 0 39 := c2.1 0 39 (by omega)
      exact this.trans b4
    · show (if 0 = i + 1 + 1 then G2.1 else A1 0) = 0
      rw [if_neg (by omega)]
      exact b5
    · by_cases q : i' = i
      · subst q
        rcases c5 i' c h2 with w | ⟨w, _⟩
        · exact c4 c a c' w h4 h5
        · omega
      · rcases c5 i' c h2 with w | ⟨w, _⟩
        · exact c3.inG (b6 i' c a c' (by omega) w h4 h5)
        · omega
    · refine (b7.trans c2.pl).trans ⟨fun _ _ _ => rfl, rfl, fun a h1 _ => ?_, fun _ _ _ => rfl⟩
      funext j
      exact u2_a _ _ _ _ h1
    · constructor
      · intro h
        rcases c5 0 c h with w | ⟨w, _⟩
        · exact (b8 c).mp w
        · omega
      · intro h
        exact c3.inG ((b8 c).mpr h)
    · show f_Mo_laysAll_L126 N (nI ho) K (n + 1) (nI i) m1 = _
      have hix1 : ix (nI i + 1) 9 := by rw [nI_1]; exact nI_in (by omega) (by omega)
      have hix2 : ix (nI i) 9 := nI_in (by omega) (by omega)
      have hix3 : ix (nI i + 2) 9 := by rw [hi2]; exact nI_in (by omega) (by omega)
      have b4' : mI m1 0 39 = nI ls := b4
      have e19a : mX m1 19 (i + 1) = nI (A1 (i + 1)) := b3 (i + 1) (by omega)
      have e19b : mX m1 19 i = nI (A1 i) := b3 i (by omega)
      rw [f_Mo_laysAll_L126, b4', if_neg (nI_ge hi (by omega)), ck_t hix1, ck_t hix2, nI_1, nI_clamp (show i + 1 < 2 ^ 31 by omega), nI_clamp (show i < 2 ^ 31 by omega), e19a, e19b]
      rw [nI_1] at c0
      rw [c0, ck_t hix3, hi2, nI_clamp (show i + 2 < 2 ^ 31 by omega), e40]) (fun n x hI => by
    show f_Mo_laysAll_L126 N (nI ho) K (n + 1) (nI ls) x.1 = _
    rw [f_Mo_laysAll_L126, hI.2.2.2.1, if_pos (nI_le (Nat.le_refl _) (by omega))]) ls N (m, G0, A0) 0 (by omega) (by omega) ⟨hB, hAG, hL, h39, hA0, fun i' c a c' h => by omega, PL.refl, fun c => Iff.rfl⟩
  exact ⟨m', G', A', e, ⟨b1, b2, b3, b4, b5, b6⟩, b7, b8⟩
/-- the table is emptied -/
theorem tR_lay2 (hN : 1000000 ≤ N) {m : Mm} {x1 : Int32} (K : Int32 → Mm → Option Mm) : ∃ m', f_Mo_laysAll_L2 N x1 K N 0 m = K (nI 524288) m' ∧ (∀ i, i < 524288 → mX m' 20 i = 0) ∧ m'.1 = m.1 ∧ m'.2.1 = m.2.1 ∧ m'.2.2.2 = m.2.2.2 ∧ ∀ a, a ≠ 20 → m'.2.2.1 a = m.2.2.1 a := by
  obtain ⟨m', ⟨b1, b2, b3, b4, b5⟩, e⟩ := loopE (fun n (x : Mm) i => f_Mo_laysAll_L2 N x1 K n (nI i) x) (fun x i => (∀ j, j < i → mX x 20 j = 0) ∧ x.1 = m.1 ∧ x.2.1 = m.2.1 ∧ x.2.2.2 = m.2.2.2 ∧ ∀ a, a ≠ 20 → x.2.2.1 a = m.2.2.1 a) 524288 (fun x => K (nI 524288) x) (fun n x i hi hI => by
    show ∃ x', _ ∧ f_Mo_laysAll_L2 N x1 K (n + 1) (nI i) x = _
    obtain ⟨b1, b2, b3, b4, b5⟩ := hI
    refine ⟨vX x 20 i 0, ⟨fun j hj => ?_, b2, b3, b4, fun a ha => ?_⟩, ?_⟩
    · show u2 x.2.2.1 20 i 0 20 j = 0
      rw [u2_eq]
      split
      · rfl
      · exact b1 j (by omega)
    · rw [← b5 a ha]
      funext j
      exact u2_a _ _ _ _ ha
    · rw [f_Mo_laysAll_L2, if_neg (show ¬ (524288 : Int32) ≤ nI i from nI_ge (b := 524288) hi (by omega)), ck_t (nI_in hi (by omega)), nI_clamp (by omega), nI_1]) (fun n x hI => by
    show f_Mo_laysAll_L2 N x1 K (n + 1) (nI 524288) x = _
    rw [f_Mo_laysAll_L2, if_pos (show (524288 : Int32) ≤ nI 524288 from nI_le (a := 524288) (Nat.le_refl _) (by omega))]) 524288 N m 0 (by omega) (by omega) ⟨fun j hj => by omega, rfl, rfl, rfl, fun _ _ => rfl⟩
  exact ⟨m', e, b1, b2, b3, b4, b5⟩
/-- what waits: none, or a sort -/
def zW (w : Option Nat) : Int32 := zOpt w
/-- states that the first layer has -/
def St0 (M : Mt) (ho c : Nat) (w : Option Nat) (c' : Nat) : Prop := match w with
  | none => c' = c
  | some s => ∃ to, to < 4 ∧ may M c to ho = true ∧ c' = c + 8 ^ (4 * s + to)
theorem BI_0 {m : Mm} (h40 : mI m 0 40 = nI 0) (h20 : ∀ i, i < 524288 → mX m 20 i = 0) : BI M ho ov m (0, fun _ => 0, fun _ => 0) (fun _ => 0) 0 := by
  refine ⟨⟨by omega, h40, fun k hk => by omega, fun i hi => Or.inl (h20 i hi), ?_, fun k hk => by omega, fun k k' hk => by omega⟩, fun k hk => ?_, Nat.le_refl _, fun i hi => by omega⟩
  · rw [cnt_0 (fun j hj => by simp [h20 j hj])]
    exact Nat.le_refl _
  · exact absurd hk (Nat.not_lt_zero _)
theorem tR_lay65 (hM : qOk M) (hE : qE M) (hN : 1000000 ≤ N) (h3 : ho ≤ 3) {m : Mm} {c : Nat} {w : Option Nat} (hd : ov ≤ qD M) (hL : Lg M c) (hh : hl c ≤ ho) (hw : ∀ s, w = some s → s < 3 ∧ tt c < ov) (hnow : mJ m 0 23 = rz c) (hwt : mI m 0 25 = zOpt w) {G : Gh} (hB : BI M ho ov m G (fun _ => 0) 0) (hw0 : w = none → InG G 0 c) (hG : ∀ c', InG G 0 c' → St0 M ho c w c') (K : Int32 → Mm → Option Mm) : ∃ z m' G', f_Mo_laysAll_L65 N (nI ho) K N 0 m = K z m' ∧ BI M ho ov m' G' (fun _ => 0) 0 ∧ GL m m' ∧ ∀ c', InG G' 0 c' ↔ St0 M ho c w c' := by
  have hD := hM.2.1
  cases w with
  | none =>
    refine ⟨0, m, G, ?_, hB, GL.refl, fun c' => ⟨hG c', fun h => ?_⟩⟩
    · obtain ⟨q, hq⟩ : ∃ q, N = q + 1 := ⟨N - 1, by omega⟩
      conv => lhs; arg 4; rw [hq]
      rw [f_Mo_laysAll_L65, if_neg (by decide), if_pos (show mI m 0 25 = -1 from hwt)]
    · have h' : c' = c := h
      rw [h']
      exact hw0 rfl
  | some s =>
    obtain ⟨hs, ht⟩ := hw s rfl
    obtain ⟨⟨m', G'⟩, ⟨b1, b2, b4, b5⟩, e⟩ := loopE (fun n (x : Mm × Gh) to => f_Mo_laysAll_L65 N (nI ho) K n (nI to) x.1) (fun x to => BI M ho ov x.1 x.2 (fun _ => 0) 0 ∧ GL m x.1 ∧ (∀ t, t < to → may M c t ho = true → InG x.2 0 (c + 8 ^ (4 * s + t))) ∧ ∀ c', InG x.2 0 c' → St0 M ho c (some s) c') 4 (fun x => K (nI 4) x.1) (fun n x to ht4 hI => by
      show ∃ x', _ ∧ f_Mo_laysAll_L65 N (nI ho) K (n + 1) (nI to) x.1 = _
      obtain ⟨b1, b2, b4, b5⟩ := hI
      have hnow' : mJ x.1 0 23 = rz c := by unfold mJ at *; rw [b2.2.1]; exact hnow
      have hwt' : mI x.1 0 25 = nI s := by unfold mI at *; rw [b2.1 0 25 (by omega)]; exact hwt
      rw [f_Mo_laysAll_L65, if_neg (n3lt ht4), hwt', if_neg (nI_m1 (by omega)), hnow', tR_mayGive hM hL.2.1 ht4 (by omega), b1_s]
      cases e1 : may M c to ho
      · refine ⟨x, ⟨b1, b2, fun t h1 h2 => ?_, b5⟩, by rw [if_pos (by simp [tf]), nI_1]⟩
        by_cases q : t = to
        · rw [q, e1] at h2; cases h2
        · exact b4 t (by omega) h2
      · have hDs : Ds M ho (ov + 0) (c + 8 ^ (4 * s + to)) := Ds_give hL (by omega) (by omega) hh hs ht4 e1
        obtain ⟨m1, G1, l1, l2, l3, l4, l5, l6⟩ := BI_lay hM hE hN b1 (by omega) hDs
        refine ⟨(m1, G1), ⟨l2, b2.trans l3, fun t h1 h2 => ?_, fun c' hi' => ?_⟩, ?_⟩
        · by_cases q : t = to
          · rw [q]; exact l5
          · exact l4.inG (b4 t (by omega) h2)
        · rcases l6 0 c' hi' with w | ⟨w1, w2⟩
          · exact b5 c' w
          · exact ⟨to, ht4, e1, w2⟩
        · have l1' : f_Mo_lays N (rz (c + 8 ^ (4 * s + to))) 0 x.1 = some m1 := l1
          rw [if_neg (by simp [tf]), t_Mone hs ht4, b1_s, rz_add hL.1 hs ht4 (am7 hs ht4 (by omega)), l1', b3_s, nI_1]) (fun n x hI => by
      show f_Mo_laysAll_L65 N (nI ho) K (n + 1) (nI 4) x.1 = _
      rw [f_Mo_laysAll_L65, if_pos n3lt4]) 4 N (m, G) 0 (by omega) (by omega) ⟨hB, GL.refl, fun t ht => by omega, hG⟩
    refine ⟨nI 4, m', G', e, b1, b2, fun c' => ⟨b5 c', fun h => ?_⟩⟩
    obtain ⟨to, h1, h2, rfl⟩ := h
    exact b4 to h1 h2
theorem tR_laysAll (hM : qOk M) (hE : qE M) (hN : 1000000 ≤ N) (h3 : ho ≤ 3) {m : Mm} {c : Nat} {w : Option Nat} (hd : ov ≤ qD M) (hL : Lg M c) (ht : tt c ≤ ov) (hh : hl c ≤ ho) (hw : ∀ s, w = some s → s < 3 ∧ tt c < ov) (hnow : mJ m 0 23 = rz c) (hwt : mI m 0 25 = zOpt w) (hX : CxR M ov m) : ∃ m' G A, f_Mo_laysAll N (nI ho) m = some m' ∧ LA M ho ov (qD M - ov) m' G A ∧ PL m m' ∧ ∀ c', InG G 0 c' ↔ St0 M ho c w c' := by
  have hD := hM.2.1
  unfold f_Mo_laysAll
  generalize hK : (fun (z3_2 : Int32) (m3 : Mm) => ck (ix (0 : Int32) 9) ((jn (fun (m5 : Mm) => f_Mo_laysAll_L65 N (nI ho) (fun (z12_2 : Int32) (m12 : Mm) => ck (ix (1 : Int32) 9) (f_Mo_laysAll_L126 N (nI ho) (fun (z130_2 : Int32) (m130 : Mm) => some m130) N 0 (vX m12 19 ((1 : Int32).toNatClampNeg) ((mI m12 0 40))))) N 0 m5) (fun j63 => if ((mI m3 0 25)) = ((-1)) then b3 (f_Mo_lays N ((mJ m3 0 23)) 0 (vX (vI (vI m3 0 40 0) 0 39 ((((mI m3 0 18)) - ((mI m3 0 24))))) 19 ((0 : Int32).toNatClampNeg) 0)) fun m256 => j63 m256 else j63 ((vX (vI (vI m3 0 40 0) 0 39 ((((mI m3 0 18)) - ((mI m3 0 24))))) 19 ((0 : Int32).toNatClampNeg) 0)))))) = KK
  obtain ⟨m3, e3, a1, a2, a3, a4, a5⟩ := tR_lay2 hN (m := m) (x1 := nI ho) KK
  rw [e3, ← hK]
  simp only [jn]
  rw [ck_t (show ix (0 : Int32) 9 from nI_in (c := 0) (by omega) (by omega))]
  have f0 : (0 : Int32).toNatClampNeg = 0 := rfl
  have f1 : (1 : Int32).toNatClampNeg = 1 := rfl
  have e25 : mI m3 0 25 = zOpt w := by unfold mI at *; rw [a2]; exact hwt
  have e23 : mJ m3 0 23 = rz c := by unfold mJ at *; rw [a3]; exact hnow
  have e18 : mI m3 0 18 = nI (qD M) := by have := hX.1.2.1; unfold mI at *; rw [a2]; exact this
  have e24 : mI m3 0 24 = nI ov := by have := hX.2; unfold mI at *; rw [a2]; exact this
  rw [f0, e25, e23, e18, e24, pk_sub hd]
  generalize hm4 : vX (vI (vI m3 0 40 0) 0 39 (nI (qD M - ov))) 19 0 0 = m4
  have p4 : PL m m4 := by
    rw [← hm4]
    refine ⟨fun a k hk => ?_, a3, fun a h1 h2 => ?_, fun a _ _ => by show m3.2.2.2 a = _; rw [a4]⟩
    · show u2 (u2 m3.1 0 40 0) 0 39 (nI (qD M - ov)) a k = m.1 a k
      unfold u2
      rw [if_neg (by omega), if_neg (by omega), a2]
    · rw [← a5 a h2]
      funext j
      exact u2_a _ _ _ _ h1
  have h40 : mI m4 0 40 = nI 0 := by
    rw [← hm4]
    show u2 (u2 m3.1 0 40 0) 0 39 (nI (qD M - ov)) 0 40 = nI 0
    rw [u2_k _ _ _ _ (by omega), u2_s]
    rfl
  have h39 : mI m4 0 39 = nI (qD M - ov) := by
    rw [← hm4]
    show u2 (u2 m3.1 0 40 0) 0 39 (nI (qD M - ov)) 0 39 = _
    rw [u2_s]
  have h20 : ∀ i, i < 524288 → mX m4 20 i = 0 := by
    intro i hi
    rw [← hm4]
    show u2 m3.2.2.1 19 0 0 20 i = 0
    rw [u2_a _ _ _ _ (by omega)]
    exact a1 i hi
  have h19 : mX m4 19 0 = nI 0 := by
    rw [← hm4]
    show u2 m3.2.2.1 19 0 0 19 0 = _
    rw [u2_s]
    rfl
  have n25 : mI m4 0 25 = zOpt w := by have := p4.1 0 25 (by omega); unfold mI at *; rw [this]; exact hwt
  have n23 : mJ m4 0 23 = rz c := by have := p4.2.1; unfold mJ at *; rw [this]; exact hnow
  have hB0 := BI_0 (M := M) (ho := ho) (ov := ov) h40 h20
  -- the rest, once the first states are laid
  have rest : ∀ (m5 : Mm) (G : Gh), BI M ho ov m5 G (fun _ => 0) 0 → GL m4 m5 → (w = none → InG G 0 c) → (∀ c', InG G 0 c' → St0 M ho c w c') → ∃ m' G' A', f_Mo_laysAll_L65 N (nI ho) (fun (z12_2 : Int32) (m12 : Mm) => ck (ix (1 : Int32) 9) (f_Mo_laysAll_L126 N (nI ho) (fun (z130_2 : Int32) (m130 : Mm) => some m130) N 0 (vX m12 19 ((1 : Int32).toNatClampNeg) ((mI m12 0 40))))) N 0 m5 = some m' ∧ LA M ho ov (qD M - ov) m' G' A' ∧ PL m m' ∧ ∀ c', InG G' 0 c' ↔ St0 M ho c w c' := by
    intro m5 G hB5 hG5 hw0 hG
    have p5 := p4.trans hG5.pl
    obtain ⟨z, m6, G6, q0, q1, q2, q3⟩ := tR_lay65 hM hE hN h3 hd hL hh hw (by have := hG5.2.1; unfold mJ at *; rw [this]; exact n23) (by have := hG5.1 0 25 (by omega); unfold mI at *; rw [this]; exact n25) hB5 hw0 hG (fun (z12_2 : Int32) (m12 : Mm) => ck (ix (1 : Int32) 9) (f_Mo_laysAll_L126 N (nI ho) (fun (z130_2 : Int32) (m130 : Mm) => some m130) N 0 (vX m12 19 ((1 : Int32).toNatClampNeg) ((mI m12 0 40)))))
    have p6 := p5.trans q2.pl
    have e40 : mI m6 0 40 = nI G6.1 := q1.1.2.1
    have g46 : GL m4 m6 := hG5.trans q2
    have p7 : PL m (vX m6 19 1 (nI G6.1)) := p6.trans ⟨fun _ _ _ => rfl, rfl, fun a h1 _ => by funext j; exact u2_a _ _ _ _ h1, fun _ _ _ => rfl⟩
    obtain ⟨m8, G8, A8, r0, r1, r2, r3⟩ := tR_lay126 hM hE hN h3 (m := vX m6 19 1 (nI G6.1)) (G0 := G6) (A0 := fun x => if x = 0 + 1 then G6.1 else (fun _ => 0) x) (ls := qD M - ov) (by omega) (BI_m rfl (vX_o (a := 19) (b := 20) (by omega)) rfl (BI_next q1)) rfl rfl (p7.cxr hX) (by
      show m6.1 0 39 = _
      rw [g46.1 0 39 (by omega)]
      exact h39) (fun x hx => by
      show u2 m6.2.2.1 19 1 (nI G6.1) 19 x = nI (if x = 0 + 1 then G6.1 else 0)
      rw [u2_eq]
      by_cases q : x = 1
      · rw [if_pos q, if_pos q]
      · rw [if_neg q, if_neg q, g46.2.2.1 19 (by omega), show x = 0 by omega]
        exact h19) (fun (z130_2 : Int32) (m130 : Mm) => some m130)
    refine ⟨m8, G8, A8, ?_, r1, p7.trans r2, fun c' => (r3 c').trans (q3 c')⟩
    rw [q0, ck_t (show ix (1 : Int32) 9 from nI_in (c := 1) (by omega) (by omega)), e40]
    exact r0
  cases w with
  | none =>
    have hDs : Ds M ho (ov + 0) c := ⟨hL, ht, hh⟩
    obtain ⟨m5, G5, l1, l2, l3, l4, l5, l6⟩ := BI_lay hM hE hN hB0 (by omega) hDs
    have l1' : f_Mo_lays N (rz c) 0 m4 = some m5 := l1
    rw [if_pos (show zOpt none = -1 from rfl), l1', b3_s]
    refine rest m5 G5 l2 l3 (fun _ => l5) (fun c' h => ?_)
    rcases l6 0 c' h with ⟨k, hk, _⟩ | ⟨_, q⟩
    · exact absurd hk (Nat.not_lt_zero _)
    · exact q
  | some s =>
    rw [if_neg (show ¬ zOpt (some s) = -1 from nI_m1 (by have := (hw s rfl).1; omega))]
    exact rest m4 _ hB0 GL.refl (fun q => by cases q) (fun c' h => by
      obtain ⟨k, hk, _⟩ := h
      exact absurd hk (Nat.not_lt_zero _))
end RLAYALL2
