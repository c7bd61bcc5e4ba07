/-! THE LAW'S ROWS: over both memories. -/
/-- what stays all the way -/
def LwG (p : Program) (s : State) (m : MethodId) (meth : Method) (c : Code) (b L : Nat) (xs : Nat → Int32) (g : Gr) : Prop := lw_At p s m meth c b L xs ∧ L ≤ 3072 ∧ ∀ (ad : Nat → Nat) (A : Nat → Prop), (∀ q, A q → s.heap.size ≤ q) → CX (ad, g) A xs L s ∧ gsc (ad, g) = b
def aW (s : State) : Nat → Prop := fun q => s.heap.size ≤ q
def ad1 (z n : Nat) : Nat := if n < 101 then z + n else z + 26 + n
def aA1 (z : Nat) : Nat → Prop := fun q => (z ≤ q ∧ q < z + 101) ∨ z + 127 ≤ q
def ad2 (z n : Nat) : Nat := z + 101 + n
def aA2 (z : Nat) : Nat → Prop := fun q => z + 101 ≤ q ∧ q < z + 127
def adl (z n : Nat) : Nat := if n = 0 then z else z + 101
theorem ad1_inj {z : Nat} (a b : Nat) (h : ad1 z a = ad1 z b) : a = b := by
  unfold ad1 at h
  split at h <;> split at h <;> omega
theorem map_int {G : Gc} (is : List Int32) : (is.map Value.int).map (cv G) = is.map Value.int := by
  rw [List.map_map]
  rfl
theorem hts_L {p : Program} {s : State} {m : MethodId} {meth : Method} {c : Code} {b L : Nat} {xs : Nat → Int32} (h : lw_At p s m meth c b L xs) : ∀ w ∈ WL, w.before #[Value.ref b] s = true := fun w hw => h.2.2.2.2.2.1 w (WL_tbl hw)
theorem va_S_to {s : State} {H : Heap} {locs : List Loc} {A : Nat → Prop} (h : va_S (aW s) s.heap H locs) : va_S A s.heap H [] := ⟨h.1, fun q h1 _ => h.2.1 q h1 (fun h2 => absurd h1 (Nat.not_lt.mpr h2)), fun _ h => (by cases h)⟩
section LAWROWS
variable {p : Program} {l : Launch} {e : Jvm.Env} {s : State} {m : MethodId} {below : List Frame} {meth : Method} {c : Code} {b L : Nat} {xs : Nat → Int32} {g : Gr} {Q : State → Prop}
theorem lw_v (K : LwG p s m meth c b L xs g) {ad : Nat → Nat} {A : Nat → Prop} (hA : ∀ q, A q → s.heap.size ≤ q) {pc i m2 a : Nat} {is : List Int32} {rest : List Value} {ls : Array Slot} {H : Heap} {locs : List Loc} {cells slots : Nat} {w w' : Wd} {r : Option Value}
    (hcd : cd 219 pc = some (.invokevirtual i, 3)) (hml2 : ml 13 i = some m2) (h3 : (decide (m2 < NM) && mS m2 == 1 && is.length == mA m2 && decide (mO m2 < 11)) = true) (hls : ls.size = 4) (hcat : (rest.map fun v => v.category).sum ≤ 8)
    (hev : Ev xs L true 100 m2 (.ref a :: is.map Value.int) w r w') (hk : Kd w a (mO m2)) (hH : HW true (ad, g) A w H) (hS : va_S (aW s) s.heap H locs) (hc : cells + (wN w' - wN w) ≤ 600000) (hs : slots + (wS w' - wS w) ≤ 7302250)
    (kk : ∀ (H1 : Heap) (locs1 : List Loc), HW true (ad, g) A w' H1 → va_S (aW s) s.heap H1 locs1 → H.size ≤ H1.size → (∀ q : Nat, q < H.size → ¬ A q → H1[q]? = H[q]?) → W p l e room_1 s m #[Value.ref b] below meth c H1 locs1 (cells + (wN w' - wN w)) (slots + (wS w' - wS w)) Q (F0 m (pc + 3) ls ((r.map (cv (ad, g))).toList ++ rest))) : W p l e room_1 s m #[Value.ref b] below meth c H locs cells slots Q (F0 m pc ls ((is.map Value.int).reverse ++ .ref (ad a) :: rest)) := by
  obtain ⟨K0, K1, K2⟩ := K
  have hts := hts_L K0
  obtain ⟨hx, hb, hret, hml, hown, -⟩ := K0
  simp only [Bool.and_eq_true, decide_eq_true_eq, beq_iff_eq] at h3
  obtain ⟨⟨⟨q1, q2⟩, q3⟩, q4⟩ := h3
  have ok2 := okM_all m2 q1
  obtain ⟨o1, o2, o3, o4, o5, o6, o7⟩ := id ok2
  obtain ⟨hC, -⟩ := K2 ad A hA
  have hcon := snd_ev l (G := (ad, g)) (A := A) _ _ _ _ _ _ hev
  have hdg := cd_ok (by decide) hcd
  have hl1 := hts _ (mlF_ok _ (lo_mem hml2))
  obtain ⟨hi, hsel⟩ : (Cond.instanceMethod (mY m2)).before #[Value.ref b] s = true ∧ (Cond.selects (mY m2).cls (mY m2) (mY m2)).before #[Value.ref b] s = true := by
    rcases o3 with ⟨h, -⟩ | ⟨-, h, h'⟩ | ⟨h, -⟩
    · omega
    · exact ⟨hts _ h, hts _ h'⟩
    · omega
  have hrc : ∃ cellB : Cell, H[ad a]? = some cellB ∧ cellB.vm.isStatics = false ∧ s.vm.findClass (mY m2).cls = some cellB.cls := by
    rw [← o5]
    exact recv_obj hC.1 hH q4 hk
  have hpc : ∀ U : State, U.heap = H → s.WarmedH U.vm → va_Pc (.ref (ad a) :: is.map Value.int) (HS xs L true (ad, g) A w) (.ref (ad a) :: is.map Value.int).toArray U := fun U hU hW => ⟨rfl, by rw [hU]; exact hH, hC.to hW hU (va_S_to hS)⟩
  unfold Con at hcon
  rw [List.map_cons, map_int] at hcon
  exact two_call (G := (ad, g)) (al := true) (A := A) (Aall := aW s) hA (va_runV (As := is.map Value.int) (rest := rest) (nL := 4) (b := ad a) ⟨hx, (show c.code = mB 219 from hb), hml, hown, hts⟩ hcon ⟨callB_of (mA m2) hts (WS_good ok2) rfl rfl rfl (hts _ o2) hl1 o6 ⟨(by show 100 + 1 ≤ 2048; omega), (by show 8 + (mL m2 + 11) + 100 * 100 ≤ 84000; omega)⟩, hi, hsel⟩ ⟨HS.blind, hrc, hpc⟩ rfl (by rw [List.length_map]; exact q3) hls rfl (lv_room hcat) hdg ⟨hc, hs⟩) hS kk
theorem lw_i (K : LwG p s m meth c b L xs g) {ad : Nat → Nat} {A : Nat → Prop} (hA : ∀ q, A q → s.heap.size ≤ q) {pc i m2 a d : Nat} {rest : List Value} {ls : Array Slot} {H : Heap} {locs : List Loc} {cells slots : Nat} {w w' : Wd}
    (hcd : cd 219 pc = some (.invokespecial i, 3)) (hml2 : ml 13 i = some m2) (h3 : (decide (m2 < NM) && mS m2 == 2 && mA m2 == 0) = true) (hls : ls.size = 4) (hcat : (rest.map fun v => v.category).sum ≤ 8) (hd : d ≤ 100)
    (hev : Ev xs L true d m2 [.ref a] w none w') (hH : HW true (ad, g) A w H) (hS : va_S (aW s) s.heap H locs) (hc : cells + (wN w' - wN w) ≤ 600000) (hs : slots + (wS w' - wS w) ≤ 7302250)
    (kk : ∀ (H1 : Heap) (locs1 : List Loc), HW true (ad, g) A w' H1 → va_S (aW s) s.heap H1 locs1 → H.size ≤ H1.size → (∀ q : Nat, q < H.size → ¬ A q → H1[q]? = H[q]?) → W p l e room_1 s m #[Value.ref b] below meth c H1 locs1 (cells + (wN w' - wN w)) (slots + (wS w' - wS w)) Q (F0 m (pc + 3) ls rest)) : W p l e room_1 s m #[Value.ref b] below meth c H locs cells slots Q (F0 m pc ls (.ref (ad a) :: rest)) := by
  obtain ⟨K0, K1, K2⟩ := K
  have hts := hts_L K0
  obtain ⟨hx, hb, hret, hml, hown, -⟩ := K0
  simp only [Bool.and_eq_true, decide_eq_true_eq, beq_iff_eq] at h3
  obtain ⟨⟨q1, q2⟩, q3⟩ := h3
  have ok2 := okM_all m2 q1
  obtain ⟨o1, o2, o3, o4, o5, o6, o7⟩ := id ok2
  obtain ⟨hC, -⟩ := K2 ad A hA
  have hcon := snd_ev l (G := (ad, g)) (A := A) _ _ _ _ _ _ hev
  have hdg := cd_ok (by decide) hcd
  have hl1 := hts _ (mlF_ok _ (lo_mem hml2))
  obtain ⟨hi, hnm, hnt⟩ : (Cond.instanceMethod (mY m2)).before #[Value.ref b] s = true ∧ (mY m2).name = "<init>" ∧ mT m2 = none := by
    rcases o3 with ⟨h, -⟩ | ⟨h, -⟩ | ⟨-, h, h', h''⟩
    · omega
    · omega
    · exact ⟨hts _ h, h', h''⟩
  have hpc : ∀ U : State, U.heap = H → s.WarmedH U.vm → va_Pc [.ref (ad a)] (HS xs L true (ad, g) A w) ([.ref (ad a)] : List Value).toArray U := fun U hU hW => ⟨rfl, by rw [hU]; exact hH, hC.to hW hU (va_S_to hS)⟩
  exact two_call (G := (ad, g)) (al := true) (A := A) (Aall := aW s) (r := none) hA (va_runI (As := []) (rest := rest) (nL := 4) (b := ad a) ⟨hx, (show c.code = mB 219 from hb), hml, hown, hts⟩ hcon ⟨callB_of (mA m2) hts (WS_good ok2) (by unfold WS; rw [hnt]) rfl rfl (hts _ o2) hl1 o6 ⟨(by show d + 1 ≤ 2048; omega), (by show 8 + (mL m2 + 11) + 100 * d ≤ 84000; omega)⟩, hnm, hi⟩ ⟨HS.blind, hpc⟩ rfl (by rw [q3]; rfl) hls rfl (lv_room hcat) hdg ⟨hc, hs⟩) hS kk
/-- the law goes on well from here -/
def LWp (p : Program) (l : Launch) (e : Jvm.Env) (s : State) (m : MethodId) (below : List Frame) (meth : Method) (c : Code) (b : Nat) (g : Gr) (pc : Nat) (lv : Lc) (st : List Value) (w1 w2 : Wd) : Prop := ∀ (ls : Array Slot) (H : Heap) (locs : List Loc), lv_has ls 4 (cvl (adl s.heap.size, g) lv) → HW true (ad1 s.heap.size, g) (aA1 s.heap.size) w1 H → HW false (ad2 s.heap.size, g) (aA2 s.heap.size) w2 H → va_S (aW s) s.heap H locs → W p l e room_1 s m #[Value.ref b] below meth c H locs (wN w1 + wN w2) (wS w1 + wS w2) (lw_Z below #[Value.ref b] s) (F0 m pc ls (st.map (cv (adl s.heap.size, g))))
variable {pc : Nat} {lv lv' : Lc} {st : List Value} {w1 w2 : Wd} {ins : Instr} {len : Nat}
theorem lw_s (K : LwG p s m meth c b L xs g) {t : Nx} (h1 : cd 219 pc = some (ins, len)) (h2 : stp (mL 219) (cI (mO 219)) (cJ (mO 219)) ins len pc lv st = some t) (k : LWp p l e s m below meth c b g t.1 t.2.1 t.2.2 w1 w2) : LWp p l e s m below meth c b g pc lv st w1 w2 := by
  intro ls H locs hl hH1 hH2 hS
  have hts := hts_L K.1
  obtain ⟨hx, hb, hret, hml, hown, -⟩ := K.1
  exact snd_stp hx (show c.code = mB 219 from hb) (show s.vm.findClass (oN (mO 219)) = some m.cls from hown) (fun i v hv => hts _ (cIF_ok _ (lo_mem hv))) (fun i v hv => hts _ (cJF_ok _ (lo_mem hv))) (cd_ok (by decide) h1) h2 hl (fun ls' hl' => k ls' H locs hl' hH1 hH2 hS)
theorem lw_sn (K : LwG p s m meth c b L xs g) (n : Nat) {t : Nx} (h : stn 219 n (pc, lv, st) = some t) (k : LWp p l e s m below meth c b g t.1 t.2.1 t.2.2 w1 w2) : LWp p l e s m below meth c b g pc lv st w1 w2 := by
  induction n generalizing pc lv st with
  | zero => cases h; exact k
  | succ n ih =>
    unfold stn at h
    split at h
    · cases h
    · next i hi =>
      split at h
      · cases h
      · next y hy => exact lw_s K hi hy (ih h)
theorem lw_jt (K : LwG p s m meth c b L xs g) {q : Prop} {dc : Decidable q} {a a' : Nx} (h1 : cd 219 pc = some (ins, len)) (h2 : stp (mL 219) (cI (mO 219)) (cJ (mO 219)) ins len pc lv st = @ite _ q dc (some a) (some a')) (hc : q) (k : LWp p l e s m below meth c b g a.1 a.2.1 a.2.2 w1 w2) : LWp p l e s m below meth c b g pc lv st w1 w2 := lw_s K h1 (by rw [h2, if_pos hc]) k
theorem lw_jf (K : LwG p s m meth c b L xs g) {q : Prop} {dc : Decidable q} {a a' : Nx} (h1 : cd 219 pc = some (ins, len)) (h2 : stp (mL 219) (cI (mO 219)) (cJ (mO 219)) ins len pc lv st = @ite _ q dc (some a) (some a')) (hc : ¬ q) (k : LWp p l e s m below meth c b g a'.1 a'.2.1 a'.2.2 w1 w2) : LWp p l e s m below meth c b g pc lv st w1 w2 := lw_s K h1 (by rw [h2, if_neg hc]) k
/-- fewer locals, in any order -/
theorem lw_sub (l0 : Lc) (h : ∀ q ∈ l0, q ∈ lv) (k : LWp p l e s m below meth c b g pc l0 st w1 w2) : LWp p l e s m below meth c b g pc lv st w1 w2 := by
  intro ls H locs hl
  refine k ls H locs ⟨hl.1, hl.2.1, fun q hq => hl.2.2 q ?_⟩
  obtain ⟨q', h1, h2⟩ := List.mem_map.mp hq
  exact List.mem_map.mpr ⟨q', h q' h1, h2⟩
theorem lw_ld (K : LwG p s m meth c b L xs g) {i : Int32} (h1 : cd 219 pc = some (.iaload, 1)) (hin : vp_in i L) (k : LWp p l e s m below meth c b g (pc + 1) lv (.int (xs i.toNatClampNeg) :: st) w1 w2) : LWp p l e s m below meth c b g pc lv (.int i :: .retAddr 1000 :: st) w1 w2 := by
  intro ls H locs hl hH1 hH2 hS
  obtain ⟨hx, hb, hret, hml, hown, -, hX, hbl, -⟩ := K.1
  rw [List.map_cons, List.map_cons, cv_x, (K.2.2 (adl s.heap.size) (aW s) (fun _ h => h)).2]
  exact va_sld hx (show c.code = mB 219 from hb) hX hbl (Nat.not_le.mpr hbl) hS hin (cd_ok (by decide) h1) (k ls H locs hl hH1 hH2 hS)
theorem lw_len (K : LwG p s m meth c b L xs g) (h1 : cd 219 pc = some (.arraylength, 1)) (k : LWp p l e s m below meth c b g (pc + 1) lv (.int (Int32.ofNat L) :: st) w1 w2) : LWp p l e s m below meth c b g pc lv (.retAddr 1000 :: st) w1 w2 := by
  intro ls H locs hl hH1 hH2 hS
  obtain ⟨hx, hb, hret, hml, hown, -, hX, hbl, -⟩ := K.1
  rw [List.map_cons, cv_x, (K.2.2 (adl s.heap.size) (aW s) (fun _ h => h)).2]
  exact va_slen hx (show c.code = mB 219 from hb) hX hbl (Nat.not_le.mpr hbl) hS (cd_ok (by decide) h1) (k ls H locs hl hH1 hH2 hS)
theorem lw_end (K : LwG p s m meth c b L xs g) (h1 : cd 219 pc = some (.ireturn, 1)) (hc : wN w1 + wN w2 ≤ 600000) (hs : wS w1 + wS w2 ≤ 7302250) : LWp p l e s m below meth c b g pc lv [.int 1] w1 w2 := by
  intro ls H locs hl hH1 hH2 hS
  obtain ⟨hx, hb, hret, hml, hown, -, hX, hbl, hlk, -⟩ := K.1
  exact va_forget (fun q hq => hS.2.2 q hq) (W.widen hc hs (lw_ret hx hb hret hlk (show decode code pc = .ok (.ireturn, 1) from cd_ok (i := 219) (by decide) h1)))
end LAWROWS
