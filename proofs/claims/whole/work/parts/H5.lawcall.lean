/-! THE LAW'S CALLS. -/
def LV (i : Int32) : Lc := [(0, .retAddr 1000), (1, .ref 0), (2, .ref 1), (3, .int i)]
/-- what stays of the other's memory -/
def Rfx (Sr : St) : Prop := ShR Sr ∧ Sr.2.2.2.2.1 = 26 ∧ Sr.2.2.2.2.2 = 1372122 ∧ ∀ m : Mm, RCl (m, Sr)
section LAWCALL
variable {p : Program} {l : Launch} {e : Jvm.Env} {s : State} {m : MethodId} {below : List Frame} {meth : Method} {c : Code} {b L : Nat} {xs : Nat → Int32} {g : Gr}
variable {pc i m2 : Nat} {lv : Lc} {is : List Int32} {r r0 : Int32}
theorem lw_c1 (K : LwG p s m meth c b L xs g) {w1 w1' w2 : Wd} (hcd : cd 219 pc = some (.invokevirtual i, 3)) (hml2 : ml 13 i = some m2) (h3 : (decide (m2 < NM) && mS m2 == 1 && is.length == mA m2 && decide (mO m2 < 11)) = true) (hev : Ev xs L true 100 m2 (.ref 0 :: is.map Value.int) w1 (some (.int r)) w1') (hk : Kd w1 0 (mO m2)) (hc : wN w1' + wN w2 ≤ 600000) (hs : wS w1' + wS w2 ≤ 7302250) (k : LWp p l e s m below meth c b g (pc + 3) lv [.int r] w1' w2) : LWp p l e s m below meth c b g pc lv ((is.map Value.int).reverse ++ [.ref 0]) w1 w2 := by
  intro ls H locs hl hH1 hH2 hS
  obtain ⟨n1, n2⟩ := Ev_mo _ _ _ _ _ _ hev
  rw [List.map_append, List.map_reverse, map_int]
  refine lw_v K (ad := ad1 s.heap.size) (A := aA1 s.heap.size) (fun q hq => ?_) (rest := []) hcd hml2 h3 hl.1 (Nat.zero_le _) hev hk hH1 hS (by omega) (by omega) (fun H1 locs1 g1 g2 g3 g4 => ?_)
  · have hq' : (s.heap.size ≤ q ∧ q < s.heap.size + 101) ∨ s.heap.size + 127 ≤ q := hq
    omega
  · rw [show wN w1 + wN w2 + (wN w1' - wN w1) = wN w1' + wN w2 by omega, show wS w1 + wS w2 + (wS w1' - wS w1) = wS w1' + wS w2 by omega]
    refine k ls H1 locs1 hl g1 (HW_keep hH2 (fun a ha => g4 _ (HW_lt hH2 ha) (fun hq => ?_)) (fun h => (by cases h))) g2
    have h1 : s.heap.size + 101 ≤ gad (ad2 s.heap.size, g) a ∧ gad (ad2 s.heap.size, g) a < s.heap.size + 127 := (hH2.1 a ha).2
    have h2 : (s.heap.size ≤ gad (ad2 s.heap.size, g) a ∧ gad (ad2 s.heap.size, g) a < s.heap.size + 101) ∨ s.heap.size + 127 ≤ gad (ad2 s.heap.size, g) a := hq
    omega
theorem lw_c2 (K : LwG p s m meth c b L xs g) {Sr : St} (hR : Rfx Sr) {mr mr' : Mm} {w1 : Wd} (hcd : cd 219 pc = some (.invokevirtual i, 3)) (hml2 : ml 13 i = some m2) (h3 : (decide (m2 < NM) && mS m2 == 1 && is.length == mA m2 && decide (mO m2 < 11)) = true) (hev : Ev xs L true 100 m2 (.ref 0 :: is.map Value.int) (mr, Sr) (some (.int r)) (mr', Sr)) (hk : Kd (mr, Sr) 0 (mO m2)) (hc : wN w1 + 26 ≤ 600000) (hs : wS w1 + 1372122 ≤ 7302250) (k : LWp p l e s m below meth c b g (pc + 3) lv [.int r, .int r0] w1 (mr', Sr)) : LWp p l e s m below meth c b g pc lv ((is.map Value.int).reverse ++ [.ref 1, .int r0]) w1 (mr, Sr) := by
  intro ls H locs hl hH1 hH2 hS
  obtain ⟨r1, r2, r3, r4⟩ := hR
  have e1 : wN ((mr, Sr) : Wd) = 26 := r2
  have e1' : wN ((mr', Sr) : Wd) = 26 := r2
  have e2 : wS ((mr, Sr) : Wd) = 1372122 := r3
  have e2' : wS ((mr', Sr) : Wd) = 1372122 := r3
  have hz : s.heap.size ≤ H.size := hS.1
  generalize hf : (fun n => if n < 26 then s.heap.size + 101 + n else H.size + (n - 26)) = f
  have f1 : ∀ n, n < 26 → f n = s.heap.size + 101 + n := fun n hn => by rw [← hf]; exact if_pos hn
  have f2 : ∀ n, 26 ≤ n → f n = H.size + (n - 26) := fun n hn => by rw [← hf]; exact if_neg (by omega)
  have f3 : ∀ n, n < 26 → s.heap.size + 101 + n < H.size := fun n hn => HW_lt hH2 (show n < wN ((mr, Sr) : Wd) by omega)
  have hinj : ∀ a b, f a = f b → a = b := fun a b h => by
    by_cases qa : a < 26
    · by_cases qb : b < 26
      · rw [f1 a qa, f1 b qb] at h; omega
      · rw [f1 a qa, f2 b (by omega)] at h; have := f3 a qa; omega
    · by_cases qb : b < 26
      · rw [f2 a (by omega), f1 b qb] at h; have := f3 b qb; omega
      · rw [f2 a (by omega), f2 b (by omega)] at h; omega
  have hN : HW true (f, g) (fun q => aA2 s.heap.size q ∨ H.size ≤ q) (mr, Sr) H := HW_re hH2 (r4 mr) (fun a ha => f1 a (by omega)) hinj (fun a ha => Or.inl (hH2.1 a ha).2) (fun _ => ⟨by rw [e1, f2 26 (by omega)]; omega, fun n hn => by rw [e1] at hn; rw [f2 n (by omega), f2 (n + 1) (by omega)]; omega, fun q hq => Or.inr hq⟩)
  have e0 : f 0 = s.heap.size + 101 := f1 0 (by omega)
  rw [List.map_append, List.map_reverse, map_int]
  have e3 : List.map (cv (adl s.heap.size, g)) [Value.ref 1, .int r0] = .ref (f 0) :: [.int r0] := by rw [e0]; rfl
  rw [e3]
  refine lw_v K (ad := f) (A := fun q => aA2 s.heap.size q ∨ H.size ≤ q) (fun q hq => ?_) (rest := [.int r0]) hcd hml2 h3 hl.1 (by show 1 + 0 ≤ 8; omega) hev hk hN hS (by omega) (by omega) (fun H1 locs1 g1 g2 g3 g4 => ?_)
  · rcases hq with hq | hq
    · have hq' : s.heap.size + 101 ≤ q ∧ q < s.heap.size + 127 := hq
      omega
    · omega
  · have z1 : H1.size = H.size := by
      have := (g1.2.2 rfl).1
      rw [e1'] at this
      exact this.trans (f2 26 (by omega))
    rw [show wN w1 + wN ((mr, Sr) : Wd) + (wN ((mr', Sr) : Wd) - wN ((mr, Sr) : Wd)) = wN w1 + wN ((mr', Sr) : Wd) by omega, show wS w1 + wS ((mr, Sr) : Wd) + (wS ((mr', Sr) : Wd) - wS ((mr, Sr) : Wd)) = wS w1 + wS ((mr', Sr) : Wd) by omega]
    refine k ls H1 locs1 hl (HW_keep hH1 (fun a ha => g4 _ (HW_lt hH1 ha) (fun hq => ?_)) (fun _ => z1)) (HW_re g1 (r4 mr') (fun a ha => (f1 a (by omega)).symm) (fun a b h => ?_) (fun a ha => ?_) (fun h => (by cases h))) g2
    · have h1 : (s.heap.size ≤ gad (ad1 s.heap.size, g) a ∧ gad (ad1 s.heap.size, g) a < s.heap.size + 101) ∨ s.heap.size + 127 ≤ gad (ad1 s.heap.size, g) a := (hH1.1 a ha).2
      have h2 := HW_lt hH1 ha
      rcases hq with hq | hq
      · have hq' : s.heap.size + 101 ≤ gad (ad1 s.heap.size, g) a ∧ gad (ad1 s.heap.size, g) a < s.heap.size + 127 := hq
        omega
      · have hq' : H.size ≤ gad (ad1 s.heap.size, g) a := hq
        omega
    · have h' : s.heap.size + 101 + a = s.heap.size + 101 + b := h
      omega
    · have h1 := f1 a (by omega)
      show s.heap.size + 101 ≤ f a ∧ f a < s.heap.size + 127
      omega
theorem lw_arg (K : LwG p s m meth c b L xs g) {x j : Int32} {st : List Value} {w1 w2 : Wd} (h1 : stn 219 4 (pc, LV x, st) = some (pc + 4, LV x, .int (x + j) :: .retAddr 1000 :: st)) (h2 : cd 219 (pc + 4) = some (.iaload, 1)) (hin : vp_in (x + j) L) (k : LWp p l e s m below meth c b g (pc + 5) (LV x) (.int (xs (x + j).toNatClampNeg) :: st) w1 w2) : LWp p l e s m below meth c b g pc (LV x) st w1 w2 := lw_sn K 4 h1 (lw_ld K h2 hin k)
theorem lw_bl (K : LwG p s m meth c b L xs g) {x v : Int32} {st : List Value} {w1 w2 : Wd} {ins : Instr} {len : Nat} (h1 : cd 219 pc = some (ins, len)) (h0 : stp (mL 219) (cI (mO 219)) (cJ (mO 219)) ins len pc (LV x) (.int v :: st) = if v = 0 then some (pc + 7, LV x, st) else some (pc + 3, LV x, st)) (h2 : stn 219 2 (pc + 3, LV x, st) = some (pc + 8, LV x, .int 1 :: st)) (h3 : stn 219 1 (pc + 7, LV x, st) = some (pc + 8, LV x, .int 0 :: st)) (k : LWp p l e s m below meth c b g (pc + 8) (LV x) (.int (tf (decide (v ≠ 0))) :: st) w1 w2) : LWp p l e s m below meth c b g pc (LV x) (.int v :: st) w1 w2 := by
  by_cases q : v = 0
  · have e : tf (decide (v ≠ 0)) = 0 := by rw [decide_eq_false (fun h => h q)]; rfl
    rw [e] at k
    exact lw_jt K h1 h0 q (lw_sn K 1 h3 k)
  · have e : tf (decide (v ≠ 0)) = 1 := by rw [decide_eq_true q]; rfl
    rw [e] at k
    exact lw_jf K h1 h0 q (lw_sn K 2 h2 k)
end LAWCALL
