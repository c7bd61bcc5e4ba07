/-! MEMORY STEPS on the machine. -/
theorem jw9 : Cond.fieldLink (oN 16) 9 "java/lang/String" "value" "[B" ∈ WL := WL_of (q := 7) (j := 19) rfl rfl
theorem jw15 : Cond.fieldLink (oN 16) 15 "java/lang/String" "coder" "B" ∈ WL := WL_of (q := 7) (j := 20) rfl rfl
theorem jw38 : Cond.fieldLink (oN 16) 38 "java/lang/String" "COMPACT_STRINGS" "Z" ∈ WL := WL_of (q := 5) (j := 215) rfl rfl
theorem jw1053 : Cond.fieldLink (oN 16) 1053 "jdk/internal/util/Preconditions" "SIOOBE_FORMATTER" "Ljava/util/function/BiFunction;" ∈ WL := WL_of (q := 5) (j := 231) rfl rfl
/-- what stays outside the memory: String constants, two statics, the script -/
def SW (G : Gc) (A : Nat → Prop) (xs : Nat → Int32) (L : Nat) (U : State) : Prop := vk_S 8 sLen sByt (gsk G) (gsv G) A U U.heap ∧ va_Z "java/lang/String" "COMPACT_STRINGS" "Z" (.int 1) A U U.heap ∧ va_Z "jdk/internal/util/Preconditions" "SIOOBE_FORMATTER" "Ljava/util/function/BiFunction;" (va_rf (gfm G)) A U U.heap ∧ (∀ i, i < 8 → vk_R (oN 10) (sIx i) (sTx i) (gsk G i) U) ∧ (va_X (gsc G) L xs U U.heap ∧ gsc G < U.heap.size ∧ ¬ A (gsc G)) ∧ va_AO "SharesComing$Ends" U ∧ va_AO "SharesComing$Sight" U
def CX (G : Gc) (A : Nat → Prop) (xs : Nat → Int32) (L : Nat) (U : State) : Prop := KW G U ∧ SW G A xs L U
theorem CX.to {G : Gc} {A : Nat → Prop} {xs : Nat → Int32} {L : Nat} {s U : State} {H : Heap} {locs : List Loc} (h : CX G A xs L s) (hW : s.WarmedH U.vm) (hU : U.heap = H) (hS : va_S A s.heap H locs) : CX G A xs L U := by
  obtain ⟨h1, h2, h3, h4, h5, ⟨h6, h7, h8⟩, h9, h10⟩ := h
  have hq : ∀ a : Nat, a < s.heap.size → ¬ A a → U.heap[a]? = s.heap[a]? := fun a h1 h2 => by rw [hU]; exact hS.2.1 a h1 h2
  refine ⟨h1.moved hW.alike, ?_, ?_, ?_, fun i hi => (h5 i hi).warm hW, ⟨?_, ?_, h8⟩, h9.moved hW.alike, h10.moved hW.alike⟩
  · exact vk_S.moved hW.alike (h2.kept hq)
  · exact va_Z.moved hW.alike (h3.kept hq)
  · exact va_Z.moved hW.alike (h4.kept hq)
  · exact va_X.moved hW.alike (h6.kept (hq _ h7 h8))
  · rw [hU]; exact Nat.lt_of_lt_of_le h7 hS.1
theorem cl_dc : ∀ (c : Nat) (r : vw_C), vwCl[c]? = some r → r.1 = oN c ∧ ∀ k, k < r.2.2 → (r.2.1 k).1 = oN c := by
  intro c r h
  match c, h with
  | 0, h => cases h; exact ⟨rfl, by decide +kernel⟩
  | 1, h => cases h; exact ⟨rfl, by decide +kernel⟩
  | 2, h => cases h; exact ⟨rfl, by decide +kernel⟩
  | 3, h => cases h; exact ⟨rfl, by decide +kernel⟩
  | 4, h => cases h; exact ⟨rfl, by decide +kernel⟩
  | 5, h => cases h; exact ⟨rfl, by decide +kernel⟩
  | 6, h => cases h; exact ⟨rfl, by decide +kernel⟩
  | 7, h => cases h; exact ⟨rfl, by decide +kernel⟩
  | 8, h => cases h; exact ⟨rfl, by decide +kernel⟩
  | 9, h => cases h; exact ⟨rfl, by decide +kernel⟩
  | 10, h => cases h; exact ⟨rfl, by decide +kernel⟩
  | c + 11, h => simp [vwCl] at h
theorem cats_cv (G : Gc) (r : List Value) : ((r.map (cv G)).map fun v => v.category).sum = cats r := by
  unfold cats
  rw [List.map_map]
  congr 1
  apply List.map_congr_left
  intro v _
  exact cv_cat G v
theorem cv_s {G : Gc} {q : Nat} (h : q < 8) : cv G (.retAddr q) = .ref (gsk G q) := by
  rw [cv_ret G, if_pos (by omega)]
theorem cv_v {G : Gc} {q : Nat} (h : q < 8) : cv G (.retAddr (100 + q)) = .ref (gsv G q) := by
  rw [cv_ret G, if_neg (by omega), if_pos (by omega), Nat.add_sub_cancel_left]
theorem cv_x {G : Gc} : cv G (.retAddr 1000) = .ref (gsc G) := by
  rw [cv_ret G, if_neg (by omega), if_neg (by omega)]
theorem cv_f {G : Gc} : cv G (.float 0) = va_rf (gfm G) := rfl
section SNDM
variable {p : Program} {l : Launch} {e : Env} {R : Room} {s : State} {m : MethodId} {args : Array Value} {below : List Frame} {meth : Method} {c0 : Code} {H : Heap} {locs : List Loc} {cells slots : Nat} {Q : State → Prop}
variable {cc : ByteArray} {G : Gc} {pc : Nat} {ls : Array Slot} {A : Nat → Prop} {al : Bool} {w : Wd} {o : Nat}
theorem snd_ms (hx : p.tables.exec = Jvm.exec) (hb : c0.code = cc) (hml : c0.maxLocals = ls.size) (hts : ∀ w ∈ WL, w.before args s = true) (hown : s.vm.findClass (oN o) = some m.cls) {xs : Nat → Int32} {L : Nat} (hC : CX G A xs L s) (hH : HW al G A w H) (hS : va_S A s.heap H locs) {ini : Bool} (hini : ini = true → meth.name = "<init>") (hR1 : 1 ≤ R.frames) (hR2 : 23 ≤ R.locals)
    {ins : Instr} {len : Nat} {st st' : List Value} {w' : Wd} (hdg : decode cc pc = .ok (ins, len)) (h : Ms xs L al o ini ins len st w st' w') (hc : cells + (wN w' - wN w) ≤ R.cells) (hs : slots + (wS w' - wS w) ≤ R.slots)
    (kk : ∀ (H1 : Heap) (locs1 : List Loc), HW al G A w' H1 → va_S A s.heap H1 locs1 → W p l e R s m args below meth c0 H1 locs1 (cells + (wN w' - wN w)) (slots + (wS w' - wS w)) Q (F0 m (pc + len) ls (st'.map (cv G)))) : W p l e R s m args below meth c0 H locs cells slots Q (F0 m pc ls (st.map (cv G))) := by
  obtain ⟨hK, hSS, hZ1, hZ2, hRk, ⟨hX, hXl, hXA⟩, hO1, hO2⟩ := hC
  have same : wN w' = wN w → wS w' = wS w → ∀ (H1 : Heap) (locs1 : List Loc), HW al G A w' H1 → va_S A s.heap H1 locs1 → W p l e R s m args below meth c0 H1 locs1 cells slots Q (F0 m (pc + len) ls (st'.map (cv G))) := by
    intro e1 e2 H1 locs1 h1 h2
    have := kk H1 locs1 h1 h2
    rwa [e1, e2, Nat.sub_self, Nat.sub_self, Nat.add_zero, Nat.add_zero] at this
  cases ins <;> simp only [Ms] at h <;> first | (exact h.elim) | skip
  case getfield i =>
    obtain ⟨rfl, rfl, h⟩ := h
    have k := same rfl rfl H locs hH hS
    rcases h with ⟨c, k1, a, r, h1, rfl, h3, rfl⟩ | ⟨q, r, hq, rfl, rfl, h⟩
    · obtain ⟨rr, g1, g2, g3⟩ := flF_ok _ (lo_mem h1)
      exact x_get hx hb hts inCl_WL hown hK hH g1 g2 h3 (hts _ g3) hdg k
    · rw [List.map_cons, cv_s hq]
      rcases h with ⟨rfl, rfl⟩ | ⟨rfl, rfl⟩
      · rw [List.map_cons, cv_v hq] at k
        exact vk_getf hx hb (hSS.1 q hq).2.2.1 hS hown (hts _ jw9) (fun _ h => h) hdg k
      · exact vk_getf hx hb (hSS.1 q hq).2.1 hS hown (hts _ jw15) (fun _ h => h) hdg k
  case putfield i =>
    obtain ⟨rfl, c, k1, a, r, v, h1, rfl, h3, h4, h5, rfl⟩ := h
    obtain ⟨rr, g1, g2, g3⟩ := flF_ok _ (lo_mem h1)
    obtain ⟨pN, pS, -⟩ := pV_ok h5 G
    refine x_put hx hb hts inCl_WL hown hK hH hS g1 g2 h3 (hts _ g3) ?_ h5 hdg (fun H1 locs1 a1 a2 => same pN pS H1 locs1 a1 a2)
    have ef : fin c k1 = (rr.2.1 k1).2.2.2 := by unfold fin; rw [show vwCl[c]? = some rr from g1]
    rw [ef] at h4
    rcases h4 with h4 | ⟨h4, h6, rfl⟩
    · exact Or.inl h4
    · exact Or.inr ⟨h4, hini h6, (cl_dc c rr g1).2 k1 g2⟩
  case iaload =>
    obtain ⟨rfl, rfl, h⟩ := h
    have k := same rfl rfl H locs hH hS
    rcases h with ⟨a, r, i, rfl, h1, h2, rfl⟩ | ⟨r, i, rfl, h1, rfl⟩
    · exact x_iald hx hb hK hH h1 h2 hdg k
    · rw [List.map_cons, List.map_cons, cv_x]
      exact va_sld hx hb hX hXl hXA hS h1 hdg k
  case laload =>
    obtain ⟨rfl, rfl, a, r, i, rfl, h1, h2, rfl⟩ := h
    exact x_lald hx hb hK hH h1 h2 hdg (same rfl rfl H locs hH hS)
  case baload =>
    obtain ⟨rfl, rfl, h⟩ := h
    have k := same rfl rfl H locs hH hS
    rcases h with ⟨a, r, i, rfl, h1, h2, rfl⟩ | ⟨q, r, i, hq, rfl, h1, rfl⟩
    · exact x_bald hx hb hK hH h1 h2 hdg k
    · rw [List.map_cons, List.map_cons, cv_v hq]
      exact va_tb hx hb (hSS.1 q hq).2.2.2 hS h1 rfl hdg k
  case aaload =>
    obtain ⟨rfl, rfl, a, r, i, rfl, h1, h2, rfl⟩ := h
    exact x_aald hx hb hK hH h1 h2 hdg (same rfl rfl H locs hH hS)
  case arraylength =>
    obtain ⟨rfl, rfl, h⟩ := h
    have k := same rfl rfl H locs hH hS
    rcases h with ⟨a, r, c, rfl, h1, h2, rfl⟩ | ⟨q, r, hq, rfl, rfl⟩ | ⟨r, rfl, rfl⟩
    · exact x_alen hx hb hK hH h1 h2 hdg k
    · rw [List.map_cons, cv_v hq]
      exact va_tlen hx hb (hSS.1 q hq).2.2.2 hS rfl hdg k
    · rw [List.map_cons, cv_x]
      exact va_slen hx hb hX hXl hXA hS hdg k
  case iastore =>
    obtain ⟨rfl, a, r, i, x, rfl, h1, h2, rfl, rfl⟩ := h
    exact x_iast hx hb hK hH hS h1 h2 hdg (fun H1 locs1 a1 a2 => same rfl rfl H1 locs1 a1 a2)
  case lastore =>
    obtain ⟨rfl, a, r, i, x, rfl, h1, h2, rfl, rfl⟩ := h
    exact x_last hx hb hK hH hS h1 h2 hdg (fun H1 locs1 a1 a2 => same rfl rfl H1 locs1 a1 a2)
  case bastore =>
    obtain ⟨rfl, a, r, i, x, ty, rfl, h1, h2, rfl, rfl⟩ := h
    exact x_bast hx hb hK hH hS h1 h2 hdg (fun H1 locs1 a1 a2 => same rfl rfl H1 locs1 a1 a2)
  case aastore =>
    obtain ⟨rfl, a, r, i, v, rfl, h1, h2, rfl, rfl⟩ := h
    exact x_aast hx hb hK hH hS h1 h2 hdg (fun H1 locs1 a1 a2 => same rfl rfl H1 locs1 a1 a2)
  case newarray t =>
    obtain ⟨rfl, rfl, n, r, k1, rfl, h1, h2, h3, rfl, rfl⟩ := h
    have e1 : wN (nA w k1 n.toNatClampNeg) - wN w = 1 := by show wN w + 1 - wN w = 1; omega
    have e2 : wS (nA w k1 n.toNatClampNeg) - wS w = n.toNatClampNeg := by show wS w + n.toNatClampNeg - wS w = _; omega
    rw [e1] at hc kk
    rw [e2] at hs kk
    refine x_newa hx hb hK hH hS h1 ?_ h2 h3 hc hs hdg (fun H1 a1 a2 => kk H1 locs a1 a2)
    obtain ⟨b1, b2, b3, b4⟩ := acw
    cases t <;> cases h1
    · exact hts _ b4
    · exact hts _ b1
    · exact hts _ b2
    · exact hts _ b3
  case anewarray i =>
    obtain ⟨rfl, rfl, n, r, k1, rfl, h1, h2, h3, rfl, rfl⟩ := h
    have e1 : wN (nA w k1 n.toNatClampNeg) - wN w = 1 := by show wN w + 1 - wN w = 1; omega
    have e2 : wS (nA w k1 n.toNatClampNeg) - wS w = n.toNatClampNeg := by show wS w + n.toNatClampNeg - wS w = _; omega
    rw [e1] at hc kk
    rw [e2] at hs kk
    obtain ⟨g1, C, g2, g3⟩ := caF_ok _ (lo_mem h1)
    have hov : va_AO C s := by
      have g1' : k1 = 15 ∨ k1 = 16 := g1
      have g2' : arty (k1 - 11) = .object C := g2
      rcases g1' with rfl | rfl
      · have : C = "SharesComing$Ends" := by simpa [arty] using g2'.symm
        rw [this]; exact hO1
      · have : C = "SharesComing$Sight" := by simpa [arty] using g2'.symm
        rw [this]; exact hO2
    exact x_anew hx hb hown hK hH hS g1 g2 (hts _ g3) (va_AO.use hov) h2 h3 hc hs hdg (fun H1 a1 a2 => kk H1 locs a1 a2)
  case new i =>
    obtain ⟨rfl, rfl, c, r, h1, h2, rfl, rfl⟩ := h
    have e1 : wN (nO w c r.2.2) - wN w = 1 := by show wN w + 1 - wN w = 1; omega
    have e2 : wS (nO w c r.2.2) - wS w = r.2.2 := by show wS w + r.2.2 - wS w = _; omega
    rw [e1] at hc kk
    rw [e2] at hs kk
    obtain ⟨r', g1, g2, g3, g4⟩ := clF_ok _ (lo_mem h1)
    have : r' = r := Option.some.inj ((show vwCl[c]? = some r' from g1).symm.trans h2)
    subst this
    exact x_new hx hb hts inCl_WL hown hK hH hS h2 (hts _ g2) (hts _ g3) (hts _ g4) hc hs hdg (fun H1 a1 a2 => kk H1 locs a1 a2)
  case ldc i =>
    obtain ⟨rfl, rfl, q, h1, rfl⟩ := h
    obtain ⟨rfl, hq, rfl⟩ := sst_ok h1
    have k := same rfl rfl H locs hH hS
    rw [List.map_cons, cv_s hq] at k
    exact va_ldcS hx hb hown (hRk q hq) hdg k
  case getstatic i =>
    obtain ⟨rfl, rfl, rfl, h⟩ := h
    have k := same rfl rfl H locs hH hS
    rcases h with ⟨rfl, rfl⟩ | ⟨rfl, rfl⟩
    · exact va_gets hx hb hZ1 hS hown (hts _ jw38) (fun _ h => h) hdg k
    · rw [List.map_cons, cv_f] at k
      exact va_gets hx hb hZ2 hS hown (hts _ jw1053) (fun _ h => h) hdg k
  case invokestatic i =>
    obtain ⟨rfl, rfl, k1, r, h1, h2, h⟩ := h
    have k := same rfl rfl H locs hH hS
    rw [Nat.sub_self, Nat.add_zero] at hc hs
    have hl : ((r.map (cv G)).map fun v => v.category).sum ≤ 8 := by rw [cats_cv]; exact h2
    obtain ⟨-, g1⟩ := mthF_ok _ (lo_mem h1)
    obtain ⟨⟨a1, a2⟩, ⟨a3, a4⟩, ⟨a5, a6⟩, ⟨a7, a8⟩, a9⟩ := mthw
    rcases h with ⟨rfl, x, y, rfl, rfl⟩ | ⟨rfl, x, y, rfl, rfl⟩ | ⟨rfl, x, y, rfl, rfl⟩ | ⟨rfl, x, y, rfl, rfl⟩
    · exact va_mmax hx hb hml hown (hts _ g1) (hts _ a1) (hts _ a9) (hts _ a2) hR1 (by omega) hc hs hdg k
    · exact va_mmax_long hx hb hml hown (hts _ g1) (hts _ a3) (hts _ a9) (hts _ a4) hR1 (by omega) hc hs hdg k
    · exact va_mmin hx hb hml hown (hts _ g1) (hts _ a5) (hts _ a9) (hts _ a6) hR1 (by omega) hc hs hdg k
    · exact va_mmin_long hx hb hml hown (hts _ g1) (hts _ a7) (hts _ a9) (hts _ a8) hR1 (by omega) hc hs hdg k
  case invokespecial i =>
    obtain ⟨rfl, rfl, a, q, h1, h2, rfl⟩ := h
    have k := same rfl rfl H locs hH hS
    have hl : ((st'.map (cv G)).map fun v => v.category).sum ≤ 8 := by rw [cats_cv]; exact h2
    have g1 := oiF_ok _ (lo_mem h1)
    exact W.objInit (g := F0 m pc ls (List.map (cv G) (.ref a :: st'))) hx hb hown (hts _ g1) (hts _ oiw.1) (hts _ oiw.2) rfl hml.symm rfl hdg hR1 (by show 2 * 0 + _ + 12 ≤ _; omega) k
end SNDM
