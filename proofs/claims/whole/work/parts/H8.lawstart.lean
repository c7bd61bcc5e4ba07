/-! THE LAW'S START. -/
section LAWNEW
variable {p : Program} {l : Launch} {e : Jvm.Env} {s : State} {m : MethodId} {below : List Frame} {meth : Method} {c : Code} {b L : Nat} {xs : Nat → Int32} {g : Gr} {Q : State → Prop}
theorem lw_n (K : LwG p s m meth c b L xs g) {ad : Nat → Nat} {A : Nat → Prop} (hA : ∀ q, A q → s.heap.size ≤ q) {pc i k n : Nat} {rest : List Value} {ls : Array Slot} {H : Heap} {locs : List Loc} {cells slots : Nat}
    (hcd : cd 219 pc = some (.new i, 3)) (hck : clk 13 i = some k) (hn : ∀ r, vwCl[k]? = some r → r.2.2 = n) (hH : HW true (ad, g) A w00 H) (hS : va_S (aW s) s.heap H locs) (hc : cells + 1 ≤ 600000) (hs : slots + n ≤ 7302250)
    (kk : ∀ H1 : Heap, HW true (ad, g) A (nO w00 k n) H1 → va_S (aW s) s.heap H1 [] → H.size ≤ H1.size → (∀ q : Nat, q < H.size → ¬ A q → H1[q]? = H[q]?) → W p l e room_1 s m #[Value.ref b] below meth c H1 [] (cells + 1) (slots + n) Q (F0 m (pc + 3) ls (.ref (ad 0) :: rest))) : W p l e room_1 s m #[Value.ref b] below meth c H locs cells slots Q (F0 m pc ls rest) := by
  obtain ⟨K0, K1, K2⟩ := K
  have hts := hts_L K0
  obtain ⟨hx, hb, hret, hml, hown, -⟩ := K0
  obtain ⟨hC, -⟩ := K2 ad A hA
  obtain ⟨r, g1, g2, g3, g4⟩ := clF_ok _ (lo_mem hck)
  have hr : vwCl[k]? = some r := g1
  have hn' := hn r hr
  subst hn'
  refine va_forget (fun q hq => hS.2.2 q hq) ?_
  exact x_new hx (show c.code = mB 219 from hb) hts inCl_WL (show s.vm.findClass (oN 13) = some m.cls from hown) hC.1 hH (va_S.rf (A := A) (H0 := H)) hr (hts _ g2) (hts _ g3) (hts _ g4) hc hs (cd_ok (by decide) hcd) (fun H1 a1 a2 => kk H1 a1 ⟨Nat.le_trans hS.1 a2.1, fun q h1 h2 => (a2.2.1 q (Nat.lt_of_lt_of_le h1 hS.1) (fun h => h2 (hA q h))).trans (hS.2.1 q h1 h2), fun _ h => (by cases h)⟩ a2.1 a2.2.1)
theorem HW_00 {ad : Nat → Nat} {A : Nat → Prop} {H : Heap} {z : Nat} (h1 : ∀ n, ad n = z + n) (h2 : H.size = z) (h3 : ∀ q, z ≤ q → A q) : HW true (ad, g) A w00 H := by
  refine ⟨fun a ha => absurd ha (Nat.not_lt_zero _), fun a b' h => ?_, fun _ => ⟨?_, fun n _ => ?_, fun q hq => h3 q (by omega)⟩⟩
  · have h' : ad a = ad b' := h
    rw [h1, h1] at h'
    omega
  · show H.size = ad 0
    rw [h1]
    omega
  · show ad (n + 1) = ad n + 1
    rw [h1, h1]
    omega
variable {pc : Nat} {lv : Lc} {st : List Value} {H : Heap} {locs : List Loc} {cells slots : Nat} {ls : Array Slot} {ins : Instr} {len : Nat}
theorem lw_p (K : LwG p s m meth c b L xs g) {t : Nx} (h1 : cd 219 pc = some (ins, len)) (h2 : stp (mL 219) (cI (mO 219)) (cJ (mO 219)) ins len pc lv st = some t) (hl : lv_has ls 4 (cvl (adl s.heap.size, g) lv)) (kk : ∀ ls', lv_has ls' 4 (cvl (adl s.heap.size, g) t.2.1) → W p l e room_1 s m #[Value.ref b] below meth c H locs cells slots Q (F0 m t.1 ls' (t.2.2.map (cv (adl s.heap.size, g))))) : W p l e room_1 s m #[Value.ref b] below meth c H locs cells slots Q (F0 m pc ls (st.map (cv (adl s.heap.size, g)))) := by
  have hts := hts_L K.1
  obtain ⟨hx, hb, hret, hml, hown, -⟩ := K.1
  exact snd_stp hx (show c.code = mB 219 from hb) (show s.vm.findClass (oN (mO 219)) = some m.cls from hown) (fun i v hv => hts _ (cIF_ok _ (lo_mem hv))) (fun i v hv => hts _ (cJF_ok _ (lo_mem hv))) (cd_ok (by decide) h1) h2 hl kk
set_option maxRecDepth 20000 in
set_option maxHeartbeats 4000000 in
/-- both are made -/
theorem lw_made (K : LwG p s m meth c b L xs g) {w1 w2 : Wd} (e1 : Ev xs L true 12 0 [.ref 0] (nO w00 9 12) none w1) (n1 : wN w1 = 101) (s1 : wS w1 = 8097) (c1 : RCl w1) (e2 : Ev xs L true 3 143 [.ref 0] (nO w00 10 47) none w2) (n2 : wN w2 = 26) (s2 : wS w2 = 1372122) (c2 : RCl w2)
    (k : LWp p l e s m below meth c b g 15 [(1, .ref 0), (0, .retAddr 1000)] [.ref 1] w1 w2) (hl : lv_has ls 4 (cvl (adl s.heap.size, g) [(0, .retAddr 1000)])) : W p l e room_1 s m #[Value.ref b] below meth c s.heap [] 0 0 (lw_Z below #[Value.ref b] s) (F0 m 0 ls []) := by
  have o1 : wN (nO w00 9 12) = 1 := rfl
  have o2 : wS (nO w00 9 12) = 12 := rfl
  have o3 : wN (nO w00 10 47) = 1 := rfl
  have o4 : wS (nO w00 10 47) = 47 := rfl
  have v9 : ∀ r, vwCl[9]? = some r → r.2.2 = 12 := fun r h => by cases h; rfl
  have v10 : ∀ r, vwCl[10]? = some r → r.2.2 = 47 := fun r h => by cases h; rfl
  refine lw_n K (ad := fun n => s.heap.size + n) (A := aW s) (fun _ h => h) (i := 7) (k := 9) (n := 12) rfl rfl v9 (HW_00 (fun _ => rfl) rfl (fun _ h => h)) va_S.rf (by omega) (by omega) (fun H1 a1 a2 a3 a4 => ?_)
  refine lw_p K (st := [.ref 0]) (t := (4, [(0, .retAddr 1000)], [.ref 0, .ref 0])) rfl rfl hl (fun ls2 hl2 => ?_)
  refine lw_i K (ad := fun n => s.heap.size + n) (A := aW s) (fun _ h => h) (i := 9) (m2 := 0) (a := 0) (rest := [.ref (s.heap.size + 0)]) rfl rfl rfl hl2.1 (by show 1 + 0 ≤ 8; omega) (by omega) e1 a1 a2 (by omega) (by omega) (fun H2 locs2 b1 b2 b3 b4 => ?_)
  refine lw_p K (pc := 7) (st := [.ref 0]) (t := (8, [(1, .ref 0), (0, .retAddr 1000)], [])) rfl rfl hl2 (fun ls3 hl3 => ?_)
  have z2 : H2.size = s.heap.size + 101 := by
    have := (b1.2.2 rfl).1
    rw [n1] at this
    exact this
  have w1a : HW false (ad1 s.heap.size, g) (aA1 s.heap.size) w1 H2 := HW_re b1 c1 (fun a ha => if_pos (by omega)) (ad1_inj) (fun a ha => Or.inl (show s.heap.size ≤ s.heap.size + a ∧ s.heap.size + a < s.heap.size + 101 by omega)) (fun h => (by cases h))
  have lt1 : ∀ a, a < wN w1 → gad (ad1 s.heap.size, g) a < s.heap.size + 101 := fun a ha => by
    have := HW_lt w1a ha
    omega
  refine lw_n K (ad := ad2 s.heap.size) (A := fun q => s.heap.size + 101 ≤ q) (fun q h => by omega) (i := 10) (k := 10) (n := 47) rfl rfl v10 (HW_00 (z := s.heap.size + 101) (fun _ => rfl) z2 (fun _ h => h)) b2 (by omega) (by omega) (fun H3 d1 d2 d3 d4 => ?_)
  have w1b : HW false (ad1 s.heap.size, g) (aA1 s.heap.size) w1 H3 := HW_keep w1a (fun a ha => d4 _ (HW_lt w1a ha) (fun h => by have := lt1 a ha; omega)) (fun h => (by cases h))
  refine lw_p K (pc := 11) (st := [.ref 1]) (t := (12, [(1, .ref 0), (0, .retAddr 1000)], [.ref 1, .ref 1])) rfl rfl hl3 (fun ls4 hl4 => ?_)
  refine lw_i K (ad := ad2 s.heap.size) (A := fun q => s.heap.size + 101 ≤ q) (fun q h => by omega) (i := 12) (m2 := 143) (a := 0) (rest := [.ref (s.heap.size + 101)]) rfl rfl rfl hl4.1 (by show 1 + 0 ≤ 8; omega) (by omega) e2 d1 d2 (by omega) (by omega) (fun H4 locs4 f1 f2 f3 f4 => ?_)
  have z4 : H4.size = s.heap.size + 127 := by
    have h := (f1.2.2 rfl).1
    rw [n2] at h
    have h' : H4.size = s.heap.size + 101 + 26 := h
    omega
  have w1c : HW false (ad1 s.heap.size, g) (aA1 s.heap.size) w1 H4 := HW_keep w1b (fun a ha => f4 _ (HW_lt w1b ha) (fun h => by have := lt1 a ha; omega)) (fun h => (by cases h))
  have w1d : HW true (ad1 s.heap.size, g) (aA1 s.heap.size) w1 H4 := HW_re w1c c1 (fun a ha => rfl) ad1_inj (fun a ha => (w1c.1 a ha).2) (fun _ => ⟨by rw [n1, z4]; unfold ad1; rw [if_neg (by omega)], fun n hn => by rw [n1] at hn; unfold ad1; rw [if_neg (by omega), if_neg (by omega)]; omega, fun q hq => Or.inr (by omega)⟩)
  have w2d : HW false (ad2 s.heap.size, g) (aA2 s.heap.size) w2 H4 := HW_re f1 c2 (fun a ha => rfl) (fun a b' h => by
    have h' : s.heap.size + 101 + a = s.heap.size + 101 + b' := h
    omega) (fun a ha => by
    show s.heap.size + 101 ≤ s.heap.size + 101 + a ∧ s.heap.size + 101 + a < s.heap.size + 127
    omega) (fun h => (by cases h))
  have kf := k ls4 H4 locs4 hl4 w1d w2d f2
  rw [show wN w1 + wN w2 = 0 + 1 + (wN w1 - wN (nO w00 9 12)) + 1 + (wN w2 - wN (nO w00 10 47)) by omega, show wS w1 + wS w2 = 0 + 12 + (wS w1 - wS (nO w00 9 12)) + 47 + (wS w2 - wS (nO w00 10 47)) by omega] at kf
  exact kf
end LAWNEW
