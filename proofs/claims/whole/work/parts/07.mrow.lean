/-! INSTRUCTIONS that touch memory, on the machine. -/
/-- what the fields' words need of a list of words -/
def inCl (Ts : List Cond) : Prop := ∀ (c : Nat) (r : vw_C), vwCl[c]? = some r → ∀ w ∈ u_ws r.1 r.2.1 r.2.2, w ∈ Ts
theorem HW.obj {al : Bool} {G : Gc} {A : Nat → Prop} {w : Wd} {H : Heap} {a c : Nat} {r : vw_C} (h : HW al G A w H) (hk : Kd w a c) (hc : vwCl[c]? = some r) : t_OB (gad G a) ((gD G).1 c) r.2.2 ((gD G).2 c) H (fV G w a c) := by
  obtain ⟨h1, h2⟩ := hk
  rcases (h.1 a h1).1 with ⟨r', e1, e2⟩ | ⟨e1, -⟩
  · rw [h2] at e1 e2
    cases e1.symm.trans hc
    exact e2
  · have := cl_lt hc
    omega
theorem HW.arr {al : Bool} {G : Gc} {A : Nat → Prop} {w : Wd} {H : Heap} {a c : Nat} (h : HW al G A w H) (hk : Kd w a c) (hc : 11 ≤ c) : c < 17 ∧ H[gad G a]? = some (arW G w a) := by
  obtain ⟨h1, h2⟩ := hk
  rcases (h.1 a h1).1 with ⟨r', e1, e2⟩ | ⟨e1, e2, e3⟩
  · have := cl_lt e1
    omega
  · exact ⟨by omega, e3⟩
section MROW
variable {p : Program} {l : Launch} {e : Env} {R : Room} {s : State} {m : MethodId} {args : Array Value} {below : List Frame} {meth : Method} {c0 : Code} {H : Heap} {locs : List Loc} {cells slots : Nat} {Q : State → Prop}
variable {cc : ByteArray} {G : Gc} {pc : Nat} {ls : Array Slot} {rest : List Value} {A : Nat → Prop} {al : Bool} {w : Wd} {H0 : Heap} {Ts : List Cond} {own : String}
theorem x_get (hx : p.tables.exec = Jvm.exec) (hb : c0.code = cc) (hts : ∀ w ∈ Ts, w.before args s = true) (hin : inCl Ts) (hown : s.vm.findClass own = some m.cls) (hK : KW G s) (hH : HW al G A w H) {a c k i : Nat} {r : vw_C} (hc : vwCl[c]? = some r) (hk : k < r.2.2) (hkd : Kd w a c)
    (hlink : (Cond.fieldLink own i (r.2.1 k).1 (r.2.1 k).2.1 (r.2.1 k).2.2.1).before args s = true) (hdg : decode cc pc = .ok (.getfield i, 3))
    (kk : W p l e R s m args below meth c0 H locs cells slots Q (F0 m (pc + 3) ls (cv G (gV w a c k) :: rest))) : W p l e R s m args below meth c0 H locs cells slots Q (F0 m pc ls (.ref (gad G a) :: rest)) := by
  obtain ⟨cell, q1, q2, q3, q4⟩ := hH.obj hkd hc
  obtain ⟨hS, hfc, kC, hkC, hkind⟩ := hK.1 c _ hc
  obtain ⟨cf, kf, fi, f, hi, hsl⟩ := hS k hk
  refine W.getf hx hb hown hlink hi (u_facts hfc hkC (u_lays hts (hin c r hc) hk) hi).1 q1 (by rw [q3]; exact fun h => by cases h) (v := cv G (gV w a c k)) ?_ rfl rfl hdg kk
  rw [hsl, q4 k hk]
  rfl
theorem x_put (hx : p.tables.exec = Jvm.exec) (hb : c0.code = cc) (hts : ∀ w ∈ Ts, w.before args s = true) (hin : inCl Ts) (hown : s.vm.findClass own = some m.cls) (hK : KW G s) (hH : HW al G A w H) (hS0 : va_S A H0 H locs) {a c k i : Nat} {r : vw_C} (hc : vwCl[c]? = some r) (hk : k < r.2.2) (hkd : Kd w a c)
    (hlink : (Cond.fieldLink own i (r.2.1 k).1 (r.2.1 k).2.1 (r.2.1 k).2.2.1).before args s = true) (hfin : (r.2.1 k).2.2.2 = false ∨ ((r.2.1 k).2.2.2 = true ∧ meth.name = "<init>" ∧ (r.2.1 k).1 = own)) {v : Value} {w' : Wd} (hv : pV w a c k v = some w') (hdg : decode cc pc = .ok (.putfield i, 3))
    (kk : ∀ (H1 : Heap) (locs1 : List Loc), HW al G A w' H1 → va_S A H0 H1 locs1 → W p l e R s m args below meth c0 H1 locs1 cells slots Q (F0 m (pc + 3) ls rest)) : W p l e R s m args below meth c0 H locs cells slots Q (F0 m pc ls (cv G v :: .ref (gad G a) :: rest)) := by
  obtain ⟨hty, hnm⟩ := cl_ty c r hc
  have hap := va_apart (own := own) hts (hin c r hc) (tyc c) hty hnm hK hc
  obtain ⟨cell, q1, q2, q3, q4⟩ := hH.obj hkd hc
  obtain ⟨hS, hfc, kC, hkC, hkind⟩ := hK.1 c _ hc
  obtain ⟨cf, kf, fi, f, hi, hsl⟩ := hS k hk
  obtain ⟨pN, pS, pK, pf, pr, pk, pj, pn, pt⟩ := pV_ok hv G
  have hst := (u_facts hfc hkC (u_lays hts (hin c r hc) hk) hi).1
  have fin : ∀ (H' : Heap) (locs' : List Loc), H'[gad G a]? = some (cell.setSlot f.slot (cv G v)) → H'.size = H.size → (∀ q, q ≠ gad G a → H'[q]? = H[q]?) → va_S A H0 H' locs' → W p l e R s m args below meth c0 H' locs' cells slots Q (F0 m (pc + 3) ls rest) := by
    intro H' locs' e1 e2 e3 hS'
    refine kk H' locs' (hH.upd (a := a) pN e2 e3 ?_ (fun b _ _ => pK b) (fun b _ hb => pf b hb) (fun b _ _ => pr b)) hS'
    left
    have e0 : wK w' a = c := (pK a).trans hkd.2
    rw [hsl] at e1
    refine ⟨r, by rw [e0]; exact hc, ?_⟩
    rw [e0]
    refine t_OB.to (V := updV (fV G w a c) k (cv G v)) ⟨_, e1, q2, q3, t_set q4 hap hk _⟩ (fun j hj => ?_)
    by_cases hjk : j = k
    · subst hjk
      rw [pk]
      simp [updV]
    · rw [pj j hjk]
      simp [updV, hjk]
  rcases hfin with hfin | ⟨hfin, hin2, hdecl⟩
  · have hlay := hts _ (hin c r hc _ (u_in_lay hk))
    unfold u_lay at hlay
    rw [if_neg (by rw [hfin]; decide)] at hlay
    have h6 := u_store hfc hkC hkind hlay hi (hty k hk) pn pt
    refine W.putK hx hb (f := f) ⟨hown, hlink, ⟨_, _, _, hi⟩, hst⟩ (by rw [q2]; exact h6) q1 q3 (by rw [hsl]; exact k2_hasslot (q4 k hk)) rfl rfl hdg fun H' e1 e2 e3 => ?_
    exact fin H' _ e1 e2 e3 (hS0.put e2 e3 (hH.1 a hkd.1).2)
  · have hlay := hts _ (hin c r hc _ (u_in_lay hk))
    unfold u_lay at hlay
    rw [if_pos hfin] at hlay
    have hcf : m.cls = cf := by
      obtain ⟨_, _, c', _, _, _, -, -, hf', -, -, -, hown2, -⟩ := Cond.laysFinal_spec hlay
      have e1 : c' = cf := by have := hi.symm.trans hf'; simp at this; exact this.1.symm
      rw [hdecl] at hown2
      rw [← e1]; exact Option.some.inj (hown.symm.trans hown2)
    have h6 := u_fits hfc hkC hkind (Or.inr hlay) hi (hty k hk) pn pt
    refine W.putFinK hx hb hown hlink hi hst hcf hin2 (by rw [q2]; exact h6) q1 q3 (by rw [hsl]; exact k2_hasslot (q4 k hk)) rfl rfl hdg fun H' e1 e2 e3 => ?_
    exact fin H' _ e1 e2 e3 (hS0.put e2 e3 (hH.1 a hkd.1).2)
/-- reading from arrays -/
theorem x_iald (hx : p.tables.exec = Jvm.exec) (hb : c0.code = cc) (hK : KW G s) (hH : HW al G A w H) {a : Nat} (hkd : Kd w a 12) {i : Int32} (hin : vp_in i (wL w a)) (hdg : decode cc pc = .ok (.iaload, 1))
    (kk : W p l e R s m args below meth c0 H locs cells slots Q (F0 m (pc + 1) ls (.int (wX w a i.toNatClampNeg) :: rest))) : W p l e R s m args below meth c0 H locs cells slots Q (F0 m pc ls (.int i :: .ref (gad G a) :: rest)) := by
  have hc := (hH.arr hkd (by omega)).2
  have hr : arW G w a = arrV (gA G 1) (wL w a) (fun j => .int (wX w a j)) := by simp [arW, hkd.2]
  rw [hr] at hc
  have hlt : i.toNatClampNeg < wL w a := Nat.not_le.mp fun q => hin (Or.inr q)
  exact W.iald (v := .int (wX w a i.toNatClampNeg)) hx hb hc (hK.arr (t := 1) (by omega) _ _) (fun q => by cases q) (by rw [arrV_size]; exact hin) (by rw [arrV_read _ _ hlt]) rfl rfl hdg kk
theorem x_lald (hx : p.tables.exec = Jvm.exec) (hb : c0.code = cc) (hK : KW G s) (hH : HW al G A w H) {a : Nat} (hkd : Kd w a 13) {i : Int32} (hin : vp_in i (wL w a)) (hdg : decode cc pc = .ok (.laload, 1))
    (kk : W p l e R s m args below meth c0 H locs cells slots Q (F0 m (pc + 1) ls (.long (wY w a i.toNatClampNeg) :: rest))) : W p l e R s m args below meth c0 H locs cells slots Q (F0 m pc ls (.int i :: .ref (gad G a) :: rest)) := by
  have hc := (hH.arr hkd (by omega)).2
  have hr : arW G w a = arrV (gA G 2) (wL w a) (fun j => .long (wY w a j)) := by simp [arW, hkd.2]
  rw [hr] at hc
  have hlt : i.toNatClampNeg < wL w a := Nat.not_le.mp fun q => hin (Or.inr q)
  exact W.lald (v := .long (wY w a i.toNatClampNeg)) hx hb hc (hK.arr (t := 2) (by omega) _ _) (fun q => by cases q) (by rw [arrV_size]; exact hin) (by rw [arrV_read _ _ hlt]) rfl rfl hdg kk
theorem x_bald (hx : p.tables.exec = Jvm.exec) (hb : c0.code = cc) (hK : KW G s) (hH : HW al G A w H) {a : Nat} (hkd : Kd w a 11 ∨ Kd w a 14) {i : Int32} (hin : vp_in i (wL w a)) (hdg : decode cc pc = .ok (.baload, 1))
    (kk : W p l e R s m args below meth c0 H locs cells slots Q (F0 m (pc + 1) ls (.int (wX w a i.toNatClampNeg) :: rest))) : W p l e R s m args below meth c0 H locs cells slots Q (F0 m pc ls (.int i :: .ref (gad G a) :: rest)) := by
  have hlt : i.toNatClampNeg < wL w a := Nat.not_le.mp fun q => hin (Or.inr q)
  rcases hkd with hkd | hkd
  · have hc := (hH.arr hkd (by omega)).2
    have hr : arW G w a = arrV (gA G 0) (wL w a) (fun j => .int (wX w a j)) := by simp [arW, hkd.2]
    rw [hr] at hc
    exact W.bald (v := .int (wX w a i.toNatClampNeg)) hx hb hc (hK.arr (t := 0) (by omega) _ _) (fun q => by cases q) (by rw [arrV_size]; exact hin) (by rw [arrV_read _ _ hlt]) rfl rfl hdg kk
  · have hc := (hH.arr hkd (by omega)).2
    have hr : arW G w a = arrV (gA G 3) (wL w a) (fun j => .int (wX w a j)) := by simp [arW, hkd.2]
    rw [hr] at hc
    exact W.zald (v := .int (wX w a i.toNatClampNeg)) hx hb hc (hK.arr (t := 3) (by omega) _ _) (fun q => by cases q) (by rw [arrV_size]; exact hin) (by rw [arrV_read _ _ hlt]) rfl rfl hdg kk
theorem x_aald (hx : p.tables.exec = Jvm.exec) (hb : c0.code = cc) (hK : KW G s) (hH : HW al G A w H) {a : Nat} (hkd : Kd w a 15 ∨ Kd w a 16) {i : Int32} (hin : vp_in i (wL w a)) (hdg : decode cc pc = .ok (.aaload, 1))
    (kk : W p l e R s m args below meth c0 H locs cells slots Q (F0 m (pc + 1) ls (cv G (rfv (wZ w a i.toNatClampNeg)) :: rest))) : W p l e R s m args below meth c0 H locs cells slots Q (F0 m pc ls (.int i :: .ref (gad G a) :: rest)) := by
  have hlt : i.toNatClampNeg < wL w a := Nat.not_le.mp fun q => hin (Or.inr q)
  rcases hkd with hkd | hkd
  · have hc := (hH.arr hkd (by omega)).2
    have hr : arW G w a = arrV (gA G 4) (wL w a) (fun j => cv G (rfv (wZ w a j))) := by simp [arW, hkd.2]
    rw [hr] at hc
    exact W.aald (v := cv G (rfv (wZ w a i.toNatClampNeg))) (ty := .object "SharesComing$Ends") hx hb hc (hK.arr (t := 4) (by omega) _ _) rfl (fun q => by cases q) (by rw [arrV_size]; exact hin) (by rw [arrV_read _ _ hlt]) rfl rfl hdg kk
  · have hc := (hH.arr hkd (by omega)).2
    have hr : arW G w a = arrV (gA G 5) (wL w a) (fun j => cv G (rfv (wZ w a j))) := by simp [arW, hkd.2]
    rw [hr] at hc
    exact W.aald (v := cv G (rfv (wZ w a i.toNatClampNeg))) (ty := .object "SharesComing$Sight") hx hb hc (hK.arr (t := 5) (by omega) _ _) rfl (fun q => by cases q) (by rw [arrV_size]; exact hin) (by rw [arrV_read _ _ hlt]) rfl rfl hdg kk
theorem x_alen (hx : p.tables.exec = Jvm.exec) (hb : c0.code = cc) (hK : KW G s) (hH : HW al G A w H) {a c : Nat} (hkd : Kd w a c) (h11 : 11 ≤ c) (hdg : decode cc pc = .ok (.arraylength, 1))
    (kk : W p l e R s m args below meth c0 H locs cells slots Q (F0 m (pc + 1) ls (.int (Int32.ofNat (wL w a)) :: rest))) : W p l e R s m args below meth c0 H locs cells slots Q (F0 m pc ls (.ref (gad G a) :: rest)) := by
  obtain ⟨h17, hc⟩ := hH.arr hkd h11
  have hr : ∃ (t : Nat) (f : Nat → Value), t < 6 ∧ arW G w a = arrV (gA G t) (wL w a) f := by
    unfold arW
    split
    · exact ⟨2, _, by omega, rfl⟩
    · split
      · exact ⟨_, _, by rw [hkd.2]; omega, rfl⟩
      · exact ⟨_, _, by rw [hkd.2]; omega, rfl⟩
  obtain ⟨t, f, ht, hr⟩ := hr
  rw [hr] at hc
  exact W.alen (n := Int32.ofNat (wL w a)) hx hb hc (hK.arr (t := t) ht _ _) (by rw [arrV_size]) rfl rfl hdg kk
/-- writing into arrays -/
theorem x_iast (hx : p.tables.exec = Jvm.exec) (hb : c0.code = cc) (hK : KW G s) (hH : HW al G A w H) (hS : va_S A H0 H locs) {a : Nat} (hkd : Kd w a 12) {i x : Int32} (hin : vp_in i (wL w a)) (hdg : decode cc pc = .ok (.iastore, 1))
    (kk : ∀ (H1 : Heap) (locs1 : List Loc), HW al G A (uX w a i.toNatClampNeg x) H1 → va_S A H0 H1 locs1 → W p l e R s m args below meth c0 H1 locs1 cells slots Q (F0 m (pc + 1) ls rest)) : W p l e R s m args below meth c0 H locs cells slots Q (F0 m pc ls (.int x :: .int i :: .ref (gad G a) :: rest)) := by
  have hc := (hH.arr hkd (by omega)).2
  have hr : arW G w a = arrV (gA G 1) (wL w a) (fun j => .int (wX w a j)) := by simp [arW, hkd.2]
  rw [hr] at hc
  refine W.iast hx hb hc (hK.arr (t := 1) (by omega) _ _) (fun q => by cases q) (by rw [arrV_size]; exact hin) rfl rfl hdg fun H1 e1 z oq => ?_
  refine kk H1 _ (hH.upd (a := a) rfl z oq (Or.inr ⟨by show 11 ≤ wK w a; rw [hkd.2]; omega, by show wK w a < 17; rw [hkd.2]; omega, ?_⟩) (fun _ _ _ => rfl) (fun _ _ _ _ _ => rfl) (fun b _ hb => arW_uX hb)) (hS.put z oq (hH.1 a hkd.1).2)
  rw [e1, arrV_store]
  have hr2 : arW G (uX w a i.toNatClampNeg x) a = arrV (gA G 1) (wL w a) (fun j => .int (wX (uX w a i.toNatClampNeg x) a j)) := by
    have : wK (uX w a i.toNatClampNeg x) a = 12 := hkd.2
    simp only [arW, this]
    rfl
  rw [hr2]
  congr 2
  funext q
  by_cases hq : q = i.toNatClampNeg
  · subst hq
    simp [updV, wX, uX, u2]
  · simp [updV, wX, uX, u2, hq]
theorem x_last (hx : p.tables.exec = Jvm.exec) (hb : c0.code = cc) (hK : KW G s) (hH : HW al G A w H) (hS : va_S A H0 H locs) {a : Nat} (hkd : Kd w a 13) {i : Int32} {x : Int64} (hin : vp_in i (wL w a)) (hdg : decode cc pc = .ok (.lastore, 1))
    (kk : ∀ (H1 : Heap) (locs1 : List Loc), HW al G A (uY w a i.toNatClampNeg x) H1 → va_S A H0 H1 locs1 → W p l e R s m args below meth c0 H1 locs1 cells slots Q (F0 m (pc + 1) ls rest)) : W p l e R s m args below meth c0 H locs cells slots Q (F0 m pc ls (.long x :: .int i :: .ref (gad G a) :: rest)) := by
  have hc := (hH.arr hkd (by omega)).2
  have hr : arW G w a = arrV (gA G 2) (wL w a) (fun j => .long (wY w a j)) := by simp [arW, hkd.2]
  rw [hr] at hc
  refine W.last hx hb hc (hK.arr (t := 2) (by omega) _ _) (fun q => by cases q) (by rw [arrV_size]; exact hin) rfl rfl hdg fun H1 e1 z oq => ?_
  refine kk H1 _ (hH.upd (a := a) rfl z oq (Or.inr ⟨by show 11 ≤ wK w a; rw [hkd.2]; omega, by show wK w a < 17; rw [hkd.2]; omega, ?_⟩) (fun _ _ _ => rfl) (fun _ _ _ _ _ => rfl) (fun b _ hb => arW_uY hb)) (hS.put z oq (hH.1 a hkd.1).2)
  rw [e1, arrV_store]
  have hr2 : arW G (uY w a i.toNatClampNeg x) a = arrV (gA G 2) (wL w a) (fun j => .long (wY (uY w a i.toNatClampNeg x) a j)) := by
    have : wK (uY w a i.toNatClampNeg x) a = 13 := hkd.2
    simp only [arW, this]
    rfl
  rw [hr2]
  congr 2
  funext q
  by_cases hq : q = i.toNatClampNeg
  · subst hq
    simp [updV, wY, uY, u2]
  · simp [updV, wY, uY, u2, hq]
theorem x_bast (hx : p.tables.exec = Jvm.exec) (hb : c0.code = cc) (hK : KW G s) (hH : HW al G A w H) (hS : va_S A H0 H locs) {a : Nat} {ty : FieldType} (hkd : (Kd w a 11 ∧ ty = .byte) ∨ (Kd w a 14 ∧ ty = .boolean)) {i x : Int32} (hin : vp_in i (wL w a)) (hdg : decode cc pc = .ok (.bastore, 1))
    (kk : ∀ (H1 : Heap) (locs1 : List Loc), HW al G A (uX w a i.toNatClampNeg (vp_nar ty x)) H1 → va_S A H0 H1 locs1 → W p l e R s m args below meth c0 H1 locs1 cells slots Q (F0 m (pc + 1) ls rest)) : W p l e R s m args below meth c0 H locs cells slots Q (F0 m pc ls (.int x :: .int i :: .ref (gad G a) :: rest)) := by
  rcases hkd with ⟨hkd, rfl⟩ | ⟨hkd, rfl⟩
  · have hc := (hH.arr hkd (by omega)).2
    have hr : arW G w a = arrV (gA G 0) (wL w a) (fun j => .int (wX w a j)) := by simp [arW, hkd.2]
    rw [hr] at hc
    refine W.bast hx hb hc (hK.arr (t := 0) (by omega) _ _) (fun q => by cases q) (by rw [arrV_size]; exact hin) rfl rfl hdg fun H1 e1 z oq => ?_
    refine kk H1 _ (hH.upd (a := a) rfl z oq (Or.inr ⟨by show 11 ≤ wK w a; rw [hkd.2]; omega, by show wK w a < 17; rw [hkd.2]; omega, ?_⟩) (fun _ _ _ => rfl) (fun _ _ _ _ _ => rfl) (fun b _ hb => arW_uX hb)) (hS.put z oq (hH.1 a hkd.1).2)
    rw [e1, arrV_store]
    have hr2 : arW G (uX w a i.toNatClampNeg (vp_nar .byte x)) a = arrV (gA G 0) (wL w a) (fun j => .int (wX (uX w a i.toNatClampNeg (vp_nar .byte x)) a j)) := by
      have : wK (uX w a i.toNatClampNeg (vp_nar .byte x)) a = 11 := hkd.2
      simp only [arW, this]
      rfl
    rw [hr2]
    congr 2
    funext q
    by_cases hq : q = i.toNatClampNeg
    · subst hq
      simp [updV, wX, uX, u2, vp_nar, narrow]
    · simp [updV, wX, uX, u2, hq]
  · have hc := (hH.arr hkd (by omega)).2
    have hr : arW G w a = arrV (gA G 3) (wL w a) (fun j => .int (wX w a j)) := by simp [arW, hkd.2]
    rw [hr] at hc
    refine W.zast hx hb hc (hK.arr (t := 3) (by omega) _ _) (fun q => by cases q) (by rw [arrV_size]; exact hin) rfl rfl hdg fun H1 e1 z oq => ?_
    refine kk H1 _ (hH.upd (a := a) rfl z oq (Or.inr ⟨by show 11 ≤ wK w a; rw [hkd.2]; omega, by show wK w a < 17; rw [hkd.2]; omega, ?_⟩) (fun _ _ _ => rfl) (fun _ _ _ _ _ => rfl) (fun b _ hb => arW_uX hb)) (hS.put z oq (hH.1 a hkd.1).2)
    rw [e1, arrV_store]
    have hr2 : arW G (uX w a i.toNatClampNeg (vp_nar .boolean x)) a = arrV (gA G 3) (wL w a) (fun j => .int (wX (uX w a i.toNatClampNeg (vp_nar .boolean x)) a j)) := by
      have : wK (uX w a i.toNatClampNeg (vp_nar .boolean x)) a = 14 := hkd.2
      simp only [arW, this]
      rfl
    rw [hr2]
    congr 2
    funext q
    by_cases hq : q = i.toNatClampNeg
    · subst hq
      simp [updV, wX, uX, u2, vp_nar, narrow]
    · simp [updV, wX, uX, u2, hq]
end MROW
