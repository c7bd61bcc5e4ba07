/-! A RUN over the memory is a run of the machine. -/
def HS (xs : Nat → Int32) (L : Nat) (al : Bool) (G : Gc) (A : Nat → Prop) (w : Wd) (U : State) : Prop := HW al G A w U.heap ∧ CX G A xs L U
def QR (al : Bool) (G : Gc) (A : Nat → Prop) (r : Option Value) (w' : Wd) : Array Value → State → Outcome → State → Prop := fun _ st oc t => oc = .returned (r.map (cv G)) ∧ HW al G A w' t.heap ∧ va_F A st t
def WS (mid : Nat) : List Cond := Cond.code (mY mid) (mB mid) (mL mid) (mT mid) :: WL
def rmD (d mc ms : Nat) : Room := { frames := d, cells := mc, slots := ms, locals := 100 * d }
/-- the contract that a run gives -/
def Con (l : Launch) (xs : Nat → Int32) (L : Nat) (al : Bool) (G : Gc) (A : Nat → Prop) (d mid : Nat) (as : List Value) (w : Wd) (r : Option Value) (w' : Wd) : Prop := Met l (mY mid) (WS mid) (rmD d (wN w' - wN w) (wS w' - wS w)) (va_Pc (as.map (cv G)) (HS xs L al G A w)) (QR al G A r w') (wN w' - wN w) (wS w' - wS w) A
theorem HS.blind {xs : Nat → Int32} {L : Nat} {al : Bool} {G : Gc} {A : Nat → Prop} {w : Wd} {vs : List Value} : FrameBlind (va_Pc vs (HS xs L al G A w)) := by
  intro a U g mk h
  obtain ⟨h1, h2, h3, h4, h5, h6, h7, ⟨h8, h9, h10⟩, h11, h12⟩ := h
  have hv : U.vm.Alike (U.calling g mk a).vm := Vm.Alike.refl U.vm
  exact ⟨h1, h2, h3.moved hv, vk_S.moved hv h4, va_Z.moved hv h5, va_Z.moved hv h6, fun i hi => (h7 i hi).same rfl, ⟨va_X.moved hv h8, h9, h10⟩, h11.moved hv, h12.moved hv⟩
theorem WS_good {mid : Nat} (h : okM mid) : GoodIn WL (WS mid) := by
  intro w hw
  rcases List.mem_cons.mp hw with rfl | hw
  · exact ⟨h.1, good_of_word (WL_good h.1)⟩
  · exact ⟨hw, good_of_word (WL_good hw)⟩
theorem recv_obj {al : Bool} {G : Gc} {A : Nat → Prop} {w : Wd} {H : Heap} {s : State} (hK : KW G s) (hH : HW al G A w H) {a c : Nat} (hc : c < 11) (hk : Kd w a c) : ∃ cell : Cell, H[gad G a]? = some cell ∧ cell.vm.isStatics = false ∧ s.vm.findClass (oN c) = some cell.cls := by
  obtain ⟨r, hr⟩ : ∃ r, vwCl[c]? = some r := ⟨vwCl[c], List.getElem?_eq_getElem (h := hc)⟩
  obtain ⟨cell, g1, g2, g3, -⟩ := hH.obj hk hr
  refine ⟨cell, g1, by rw [g3]; rfl, ?_⟩
  rw [g2, ← (cl_dc c r hr).1]
  exact (hK.1 c r hr).2.1
section SND
variable {p : Program} {l : Launch} {e : Env} {R : Room} {s : State} {m : MethodId} {args : Array Value} {below : List Frame} {meth : Method} {c0 : Code} {Q : State → Prop}
variable {cc : ByteArray} {G : Gc} {A : Nat → Prop} {al : Bool}
/-- behind a call -/
theorem snd_call {H : Heap} {locs : List Loc} {cells slots mc ms : Nat} {pc : Nat} {ls : Array Slot} {st0 rest : List Value} {r : Option Value} {w' : Wd} {a : Array Value} (hr : va_Run p l e R s m args below meth c0 H locs cells slots mc ms (F0 m pc ls st0) rest (QR al G A r w' a) A) (hS : va_S A s.heap H locs)
    (kk : ∀ (H1 : Heap) (locs1 : List Loc), HW al G A w' H1 → va_S A s.heap H1 locs1 → W p l e R s m args below meth c0 H1 locs1 (cells + mc) (slots + ms) Q (F0 m (pc + 3) ls ((r.map (cv G)).toList ++ rest))) : W p l e R s m args below meth c0 H locs cells slots Q (F0 m pc ls st0) := by
  intro T hT X
  obtain ⟨v, st₀, t, T', L, h0, X', hL, e1, e2, ⟨hv, hW', hz, hk⟩, st⟩ := hr T hT X
  cases hv
  rw [h0] at hz hk
  obtain ⟨t2, a1, b1⟩ := kk T'.heap (locs ++ L) (by rw [e1]; exact hW')
    ⟨Nat.le_trans hS.1 (by rw [e1]; exact hz), fun q h1 h2 => by rw [e1, hk q (Nat.lt_of_lt_of_le h1 hS.1) h2]; exact hS.2.1 q h1 h2, fun q hq => by
      rcases List.mem_append.mp hq with h | h
      · exact hS.2.2 q h
      · exact hL q h⟩ T' rfl X'
  exact ⟨t2, st t2 a1, b1⟩
theorem snd_rn (hx : p.tables.exec = Jvm.exec) {mid : Nat} (hmid : mid < NM + 1) (hb : c0.code = mB mid) (hml : c0.maxLocals = mL mid) (hts : ∀ w ∈ WL, w.before args s = true) (hown : s.vm.findClass (oN (mO mid)) = some m.cls) {xs : Nat → Int32} {L : Nat} (hC : CX G A xs L s) (hini : (mS mid == 2) = true → meth.name = "<init>")
    {d : Nat} (hR1 : d + 1 ≤ R.frames) (hR2 : 100 * d + 80 ≤ R.locals) (IH : ∀ m2 as w r w', Ev xs L al d m2 as w r w' → Con l xs L al G A d m2 as w r w') {r : Option Value} {w0 w' : Wd} (hRc : wN w' - wN w0 ≤ R.cells) (hRs : wS w' - wS w0 ≤ R.slots)
    (hret : ∀ (pc : Nat) (ls : Array Slot) (H : Heap) (locs : List Loc) (ins : Instr) (len : Nat) (st : List Value), decode (mB mid) pc = .ok (ins, len) → Rt mid ins len st w' r w' → HW al G A w' H → va_S A s.heap H locs → W p l e R s m args below meth c0 H locs (wN w' - wN w0) (wS w' - wS w0) Q (F0 m pc ls (st.map (cv G)))) :
    ∀ (n pc : Nat) (lv : Lc) (st : List Value) (w : Wd), Mo w0 w → Rn xs L al (Ev xs L al d) mid n pc lv st w r w' → ∀ (ls : Array Slot) (H : Heap) (locs : List Loc), lv_has ls (mL mid) (cvl G lv) → HW al G A w H → va_S A s.heap H locs → W p l e R s m args below meth c0 H locs (wN w - wN w0) (wS w - wS w0) Q (F0 m pc ls (st.map (cv G)))
  | 0, _, _, _, _, _, h, _, _, _, _, _, _ => h.elim
  | n + 1, pc, lv, st, w, hm, h, ls, H, locs, hl, hH, hS => by
    have go := snd_rn hx hmid hb hml hts hown hC hini hR1 hR2 IH hRc hRs hret n
    obtain ⟨ins, len, hcd, h⟩ := h
    have hdg := cd_ok hmid hcd
    rcases h with ⟨t, h1, h⟩ | ⟨st1, w1, h1, h⟩ | ⟨m2, as, rest, r1, w1, h1, h2, h⟩ | h
    · exact snd_stp hx hb hown (fun i v hv => hts _ (cIF_ok _ (lo_mem hv))) (fun i v hv => hts _ (cJF_ok _ (lo_mem hv))) hdg h1 hl (fun ls' hl' => go _ _ _ _ hm h ls' H locs hl' hH hS)
    · have m1 := Ms_mo h1
      have m2 := Rn_mo (Ev_mo d) _ _ _ _ _ _ _ h
      have a1 := m1.1; have a2 := m1.2; have b1 := m2.1; have b2 := m2.2; have c1 := hm.1; have c2 := hm.2
      refine snd_ms hx hb (by rw [hml]; exact hl.1.symm) hts hown hC hH hS hini (by omega) (by omega) hdg h1 (by omega) (by omega) (fun H1 locs1 g1 g2 => ?_)
      have k := go _ _ _ _ (hm.tr m1) h ls H1 locs1 hl g1 g2
      rwa [show wN w - wN w0 + (wN w1 - wN w) = wN w1 - wN w0 by omega, show wS w - wS w0 + (wS w1 - wS w) = wS w1 - wS w0 by omega]
    · obtain ⟨rfl, hm2, rfl, hcat, h1⟩ := h1
      have ok2 := okM_all m2 hm2
      obtain ⟨o1, o2, o3, o4, o5, o6, o7⟩ := id ok2
      have m1 := Ev_mo d _ _ _ _ _ h2
      have mr := Rn_mo (Ev_mo d) _ _ _ _ _ _ _ h
      have a1 := m1.1; have a2 := m1.2; have b1 := mr.1; have b2 := mr.2; have c1 := hm.1; have c2 := hm.2
      have hcon := IH _ _ _ _ _ h2
      have hcat' : ((rest.map (cv G)).map fun v => v.category).sum ≤ 8 := by rw [cats_cv]; exact hcat
      have kk : ∀ (H1 : Heap) (locs1 : List Loc), HW al G A w1 H1 → va_S A s.heap H1 locs1 → W p l e R s m args below meth c0 H1 locs1 (wN w - wN w0 + (wN w1 - wN w)) (wS w - wS w0 + (wS w1 - wS w)) Q (F0 m (pc + 3) ls ((r1.map (cv G)).toList ++ rest.map (cv G))) := by
        intro H1 locs1 g1 g2
        have k := go _ _ _ _ (hm.tr m1) h ls H1 locs1 hl g1 g2
        rw [show wN w - wN w0 + (wN w1 - wN w) = wN w1 - wN w0 by omega, show wS w - wS w0 + (wS w1 - wS w) = wS w1 - wS w0 by omega]
        rw [List.map_append] at k
        cases r1 <;> exact k
      have hpc : ∀ U : State, U.heap = H → s.WarmedH U.vm → va_Pc (as.map (cv G)) (HS xs L al G A w) (as.map (cv G)).toArray U := fun U hU hW => ⟨rfl, by rw [hU]; exact hH, hC.to hW hU hS⟩
      have hst : (as.reverse ++ rest).map (cv G) = (as.map (cv G)).reverse ++ rest.map (cv G) := by rw [List.map_append, List.map_reverse]
      have hlen : ls.size = mL mid := hl.1
      have hR : (rmD d (wN w1 - wN w) (wS w1 - wS w)).frames + 1 ≤ R.frames ∧ 8 + (mL m2 + 11) + (rmD d (wN w1 - wN w) (wS w1 - wS w)).locals ≤ R.locals := ⟨hR1, by show 8 + (mL m2 + 11) + 100 * d ≤ R.locals; omega⟩
      have hf : wN w - wN w0 + (wN w1 - wN w) ≤ R.cells ∧ wS w - wS w0 + (wS w1 - wS w) ≤ R.slots := ⟨by omega, by omega⟩
      cases ins <;> simp only at h1 <;> first | (exact h1.elim) | skip
      case invokestatic i =>
        obtain ⟨g1, g2, g3⟩ := h1
        have hl1 := hts _ (mlF_ok _ (lo_mem g1))
        have hst0 : (Cond.static (mY m2)).before args s = true := by
          rcases o3 with ⟨-, h⟩ | ⟨h, -⟩ | ⟨h, -⟩
          · exact hts _ h
          · omega
          · omega
        refine snd_call (va_runS (As := as.map (cv G)) (rest := rest.map (cv G)) (nL := mL mid) ⟨hx, hb, hml, hown, hts⟩ hcon ⟨callB_of (mA m2) hts (WS_good ok2) rfl rfl rfl (hts _ o2) hl1 o6 hR, hst0⟩ ⟨HS.blind, hpc⟩ rfl (by rw [List.length_map]; exact g3) hlen (by rw [hst]) (lv_room hcat') hdg hf) hS kk
      case invokevirtual i =>
        obtain ⟨g1, g2, v, vs, rfl, g3, g4⟩ := h1
        have hl1 := hts _ (mlF_ok _ (lo_mem g1))
        obtain ⟨hi, hsel⟩ : (Cond.instanceMethod (mY m2)).before args s = true ∧ (Cond.selects (mY m2).cls (mY m2) (mY m2)).before args s = true := by
          rcases o3 with ⟨h, -⟩ | ⟨-, h, h'⟩ | ⟨h, -⟩
          · omega
          · exact ⟨hts _ h, hts _ h'⟩
          · omega
        obtain ⟨b, hcb, hrc⟩ : ∃ b, cv G v = .ref b ∧ ∃ cellB : Cell, H[b]? = some cellB ∧ cellB.vm.isStatics = false ∧ s.vm.findClass (mY m2).cls = some cellB.cls := by
          rcases g4 with ⟨a, rfl, g5, g6⟩ | ⟨q, rfl, g5, g6⟩
          · refine ⟨gad G a, rfl, ?_⟩
            rw [← o5]
            exact recv_obj hC.1 hH g5 g6
          · refine ⟨gsk G q, cv_s g5, ?_⟩
            rw [← o5, g6]
            exact vk_recv hC.2.1 g5 hS
        rw [hst, List.map_cons, hcb, List.reverse_cons, List.append_assoc]
        rw [List.map_cons, hcb] at hpc
        have hcon' := hcon
        unfold Con at hcon'
        rw [List.map_cons, hcb] at hcon'
        refine snd_call (va_runV (As := vs.map (cv G)) (rest := rest.map (cv G)) (nL := mL mid) (b := b) ⟨hx, hb, hml, hown, hts⟩ hcon' ⟨callB_of (mA m2) hts (WS_good ok2) rfl rfl rfl (hts _ o2) hl1 o6 hR, hi, hsel⟩ ⟨HS.blind, hrc, hpc⟩ rfl (by rw [List.length_map]; exact g3) hlen rfl (lv_room hcat') hdg hf) hS kk
      case invokespecial i =>
        obtain ⟨g1, g2, a, vs, rfl, g3⟩ := h1
        have hl1 := hts _ (mlF_ok _ (lo_mem g1))
        obtain ⟨hi, hnm, hnt⟩ : (Cond.instanceMethod (mY m2)).before args s = true ∧ (mY m2).name = "<init>" ∧ mT m2 = none := by
          rcases o3 with ⟨h, -⟩ | ⟨h, -⟩ | ⟨-, h, h', h''⟩
          · omega
          · omega
          · exact ⟨hts _ h, h', h''⟩
        rw [hst, List.map_cons, List.reverse_cons, List.append_assoc]
        refine snd_call (va_runI (As := vs.map (cv G)) (rest := rest.map (cv G)) (nL := mL mid) (b := gad G a) ⟨hx, hb, hml, hown, hts⟩ hcon ⟨callB_of (mA m2) hts (WS_good ok2) (by unfold WS; rw [hnt]) rfl rfl (hts _ o2) hl1 o6 hR, hnm, hi⟩ ⟨HS.blind, hpc⟩ rfl (by rw [List.length_map]; exact g3) hlen rfl (lv_room hcat') hdg hf) hS kk
    · have hw := h.1
      subst hw
      exact hret pc ls H locs ins len st hdg h hH hS
end SND
/-- every run is met by the machine -/
theorem snd_ev (l : Launch) {xs : Nat → Int32} {L : Nat} {al : Bool} {G : Gc} {A : Nat → Prop} : ∀ (d mid : Nat) (as : List Value) (w : Wd) (r : Option Value) (w' : Wd), Ev xs L al d mid as w r w' → Con l xs L al G A d mid as w r w'
  | 0, _, _, _, _, _, h => h.elim
  | d + 1, mid, as, w, r, w', h => by
    obtain ⟨hmid, hargs, n, h⟩ := h
    have ok := okM_all mid hmid
    unfold Con
    refine Met.ofW (cc := mB mid) (maxL := mL mid) (ret := mT mid) ok.2.2.2.1 rfl ?_
    intro p e s m args below meth c s₁ B hml hv
    obtain ⟨rfl, hH, hC⟩ := hv
    have hts0 := atoms_spec (ws := WS mid) B.pre
    have hts : ∀ w ∈ WL, w.before (as.map (cv G)).toArray s = true := fun w hw => hts0 w (List.mem_cons_of_mem _ hw)
    have hown : s.vm.findClass (oN (mO mid)) = some m.cls := by rw [ok.2.2.2.2.1]; exact findClass_of_methodNamed B.named
    have hlocks := B.notSynchronized
    have hlen : (lg_sl (as.map (cv G))).length = (lg_sl as).length := by
      clear hC hH hts hts0 h B hargs
      induction as with
      | nil => rfl
      | cons v vs ih =>
        simp only [lg_sl, List.map_cons, List.flatMap_cons, List.length_append, cv_cat] at ih ⊢
        rw [ih]
        split <;> rfl
    have hl := lv_entry (as.map (cv G)) (n := mL mid) (by rw [hlen]; exact hargs)
    rw [lg_entry_eq]
    rw [cvl_args] at hl
    have hret : ∀ (pc : Nat) (ls : Array Slot) (H : Heap) (locs : List Loc) (ins : Instr) (len : Nat) (st : List Value), decode (mB mid) pc = .ok (ins, len) → Rt mid ins len st w' r w' → HW al G A w' H → va_S A s.heap H locs → W p l e (headSpec (WS mid) (rmD (d + 1) (wN w' - wN w) (wS w' - wS w))).room s m (as.map (cv G)).toArray below meth c H locs (wN w' - wN w) (wS w' - wS w) (MQ below (QR al G A r w') (as.map (cv G)).toArray s (wN w' - wN w) (wS w' - wS w) A) (F0 m pc ls (st.map (cv G))) := by
      intro pc ls H locs ins len st hdg hrt hH' hS'
      obtain ⟨-, rfl, hrt⟩ := hrt
      cases ins <;> simp only at hrt <;> first | (exact hrt.elim) | skip
      case ireturn =>
        obtain ⟨x, ty, rfl, rfl, h1, h2⟩ := hrt
        exact W.zret (v := x) B.exec B.bytes (B.returns.trans h1) h2 (fun t ht hW => ⟨rfl, by rw [ht]; exact hH', hS'.F ht⟩) hS'.2.2 hdg
      case lreturn =>
        obtain ⟨x, rfl, rfl, h1⟩ := hrt
        exact W.lret (v := x) B.exec B.bytes (B.returns.trans h1) (fun t ht hW => ⟨rfl, by rw [ht]; exact hH', hS'.F ht⟩) hS'.2.2 hdg
      case areturn =>
        obtain ⟨a, n, rfl, rfl, h1⟩ := hrt
        exact W.aret (v := .ref (gad G a)) B.exec B.bytes (B.returns.trans h1) (Or.inl ⟨n, rfl⟩) (Or.inr ⟨_, rfl⟩) (fun t ht hW => ⟨rfl, by rw [ht]; exact hH', hS'.F ht⟩) hS'.2.2 hdg
      case return_ =>
        obtain ⟨rfl, rfl, h1⟩ := hrt
        exact W.vret B.exec B.bytes (B.returns.trans h1) (fun t ht hW => ⟨rfl, by rw [ht]; exact hH', hS'.F ht⟩) hS'.2.2 hdg
    have k := snd_rn (l := l) (R := (headSpec (WS mid) (rmD (d + 1) (wN w' - wN w) (wS w' - wS w))).room) (e := e) (below := below) (meth := meth) B.exec (Nat.lt_succ_of_lt hmid) B.bytes hml hts hown hC (fun h2 => by
        have h3 : mS mid = 2 := by simpa using h2
        have h4 := (name_of_methodNamed B.named B.method).1
        rw [h4]
        rcases ok.2.2.1 with ⟨h, -⟩ | ⟨h, -⟩ | ⟨-, -, h, -⟩
        · omega
        · omega
        · exact h) (d := d) (Nat.le_refl _) (by show 100 * d + 80 ≤ 100 * (d + 1); omega) (fun m2 as w r w' h => snd_ev l d m2 as w r w' h) (w0 := w) (Nat.le_refl _) (Nat.le_refl _) hret n 0 _ [] w (Mo.rf w) h _ s.heap [] hl hH va_S.rf
    rw [Nat.sub_self, Nat.sub_self] at k
    exact k
