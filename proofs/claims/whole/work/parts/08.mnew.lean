/-! NEW objects and arrays, on the machine. -/
theorem cl_n4 : ∀ (c : Nat) (r : vw_C), vwCl[c]? = some r → ∀ k, k < r.2.2 → fty c k ≠ 4 := by
  intro c r h
  match c, h with
  | 0, h => cases h; decide
  | 1, h => cases h; decide
  | 2, h => cases h; decide
  | 3, h => cases h; decide
  | 4, h => cases h; decide
  | 5, h => cases h; decide
  | 6, h => cases h; decide
  | 7, h => cases h; decide
  | 8, h => cases h; decide
  | 9, h => cases h; decide
  | 10, h => cases h; decide
  | c + 11, h => simp [vwCl] at h
theorem nO_def {G : Gc} {w : Wd} {c n k : Nat} (h : fty c k ≠ 4) : fV G (nO w c n) (wN w) c k = defaultValue (tyc c k) := by
  have e1 : wJ (nO w c n) (wN w) k = 0 := by simp [wJ, nO, ur]
  have e2 : wR (nO w c n) (wN w) k = none := by simp [wR, nO, ur]
  have e3 : wI (nO w c n) (wN w) k = 0 := by simp [wI, nO, ur]
  simp only [fV, gV, e1, e2, e3]
  unfold fty at h ⊢
  cases ht : tyc c k <;> rw [ht] at h <;> simp at h <;> rfl
theorem HW.fresh {al : Bool} {G : Gc} {A : Nat → Prop} {w w' : Wd} {H H1 : Heap} (h : HW al G A w H) (hal : al = true) (hN : wN w' = wN w + 1) (z : H1.size = H.size + 1) (oq : ∀ q, q < H.size → H1[q]? = H[q]?) (hat : atW G w' (wN w) H1) (hK : ∀ b, b < wN w → wK w' b = wK w b) (hf : ∀ b, b < wN w → ∀ c k, fV G w' b c k = fV G w b c k) (hr : ∀ b, b < wN w → arW G w' b = arW G w b) : HW al G A w' H1 := by
  obtain ⟨h1, h2, h3⟩ := h.2.2 hal
  refine ⟨fun b hb => ?_, h.2.1, fun _ => ⟨?_, fun n hn => h2 n (by omega), fun q hq => h3 q (by omega)⟩⟩
  · rw [hN] at hb
    by_cases hba : b = wN w
    · subst hba
      exact ⟨hat, h3 _ (by rw [h1]; exact Nat.le_refl _)⟩
    · have hb' : b < wN w := by omega
      refine ⟨?_, (h.1 b hb').2⟩
      have lt : gad G b < H.size := by
        rcases (h.1 b hb').1 with ⟨r, -, cell, g1, -⟩ | ⟨-, -, g1⟩
        · exact (Array.getElem?_eq_some_iff.mp g1).1
        · exact (Array.getElem?_eq_some_iff.mp g1).1
      have hq : H1[gad G b]? = H[gad G b]? := oq _ lt
      rcases (h.1 b hb').1 with ⟨r, g1, g2⟩ | ⟨g1, g2, g3⟩
      · left
        refine ⟨r, by rw [hK b hb']; exact g1, ?_⟩
        rw [hK b hb']
        exact (g2.kept hq).to (fun k _ => (hf b hb' _ k).symm)
      · right
        rw [hK b hb', hr b hb']
        exact ⟨g1, g2, hq.trans g3⟩
  · rw [hN, h2 _ (Nat.le_refl _), z, h1]
theorem va_S.push {A : Nat → Prop} {H0 H H1 : Heap} {locs : List Loc} (hS : va_S A H0 H locs) (z : H1.size = H.size + 1) (oq : ∀ q, q < H.size → H1[q]? = H[q]?) : va_S A H0 H1 locs := ⟨Nat.le_trans hS.1 (by omega), fun x h1 h2 => (oq x (Nat.lt_of_lt_of_le h1 hS.1)).trans (hS.2.1 x h1 h2), hS.2.2⟩
theorem fV_nO {G : Gc} {w : Wd} {c n b : Nat} (h : b < wN w) (c' k : Nat) : fV G (nO w c n) b c' k = fV G w b c' k := by
  have hne : b ≠ wN w := Nat.ne_of_lt h
  simp only [fV, gV, wJ, wR, wI, nO, ur, hne, if_false]
theorem arW_nO {G : Gc} {w : Wd} {c n b : Nat} (h : b < wN w) : arW G (nO w c n) b = arW G w b := by
  have hne : b ≠ wN w := Nat.ne_of_lt h
  have e1 : wK (nO w c n) b = wK w b := by simp [wK, nO, u1, hne]
  unfold arW
  rw [e1]
  rfl
theorem fV_nA {G : Gc} {w : Wd} {t n b c k : Nat} : fV G (nA w t n) b c k = fV G w b c k := rfl
theorem arW_nA {G : Gc} {w : Wd} {t n b : Nat} (h : b < wN w) : arW G (nA w t n) b = arW G w b := by
  have hne : b ≠ wN w := Nat.ne_of_lt h
  have e1 : wK (nA w t n) b = wK w b := by simp [wK, nA, u1, hne]
  have e2 : wL (nA w t n) b = wL w b := by simp [wL, nA, u1, hne]
  have e3 : ∀ j, wX (nA w t n) b j = wX w b j := fun j => by simp [wX, nA, ur, hne]
  have e4 : ∀ j, wY (nA w t n) b j = wY w b j := fun j => by simp [wY, nA, ur, hne]
  have e5 : ∀ j, wZ (nA w t n) b j = wZ w b j := fun j => by simp [wZ, nA, ur, hne]
  unfold arW
  rw [e1, e2]
  simp only [e3, e4, e5]
/-- the kind of an array of numbers -/
def akd (t : ArrayType) : Option Nat := match t with
  | .byte => some 11
  | .int => some 12
  | .long => some 13
  | .boolean => some 14
  | _ => none
def abt (k : Nat) : Nat := if k = 12 then 4 else if k = 13 then 8 else 1
section MNEW
variable {p : Program} {l : Launch} {e : Env} {R : Room} {s : State} {m : MethodId} {args : Array Value} {below : List Frame} {meth : Method} {c0 : Code} {H : Heap} {locs : List Loc} {cells slots : Nat} {Q : State → Prop}
variable {cc : ByteArray} {G : Gc} {pc : Nat} {ls : Array Slot} {rest : List Value} {A : Nat → Prop} {w : Wd} {H0 : Heap} {Ts : List Cond} {own : String}
theorem x_new (hx : p.tables.exec = Jvm.exec) (hb : c0.code = cc) (hts : ∀ w ∈ Ts, w.before args s = true) (hin : inCl Ts) (hown : s.vm.findClass own = some m.cls) (hK : KW G s) (hH : HW true G A w H) (hS : va_S A H0 H locs) {c i : Nat} {r : vw_C} (hc : vwCl[c]? = some r)
    (hlink : (Cond.classLink own i r.1).before args s = true) (hinst : (Cond.instantiable r.1 r.2.2).before args s = true) (hini : (Cond.initialized r.1).before args s = true) (hcells : cells + 1 ≤ R.cells) (hslots : slots + r.2.2 ≤ R.slots) (hdg : decode cc pc = .ok (.new i, 3))
    (kk : ∀ H1 : Heap, HW true G A (nO w c r.2.2) H1 → va_S A H0 H1 locs → W p l e R s m args below meth c0 H1 locs (cells + 1) (slots + r.2.2) Q (F0 m (pc + 3) ls (.ref (gad G (wN w)) :: rest))) : W p l e R s m args below meth c0 H locs cells slots Q (F0 m pc ls rest) := by
  have hKn := hK.1 c _ hc
  obtain ⟨hty, -⟩ := cl_ty c r hc
  obtain ⟨s1, -, -⟩ := hH.2.2 rfl
  refine W.newcK hx hb hown hlink hinst hini rfl hdg hcells hslots hKn.2.1 s1 fun H1 kC hkC e1 z1 o1 => ?_
  rw [← s1] at z1 o1
  refine kk H1 (hH.fresh rfl rfl z1 o1 (Or.inl ⟨r, ?_, ?_⟩) (fun b hb' => ?_) (fun b hb' => fV_nO hb') (fun b hb' => arW_nO hb')) (hS.push z1 o1)
  · show vwCl[u1 w.2.2.1 (wN w) c (wN w)]? = some r
    rw [show u1 w.2.2.1 (wN w) c (wN w) = c by simp [u1]]
    exact hc
  · have e0 : wK (nO w c r.2.2) (wN w) = c := by simp [wK, nO, u1]
    rw [e0]
    exact (u_born (tyc c) hts (hin c r hc) hKn hkC e1 hty).to (fun k hk => (nO_def (cl_n4 c r hc k hk)).symm)
  · have hne : b ≠ wN w := Nat.ne_of_lt hb'
    simp [wK, nO, u1, hne]
theorem x_newa (hx : p.tables.exec = Jvm.exec) (hb : c0.code = cc) (hK : KW G s) (hH : HW true G A w H) (hS : va_S A H0 H locs) {t : ArrayType} {k : Nat} (ht : akd t = some k) (harr : (Cond.arrayClass (newarray.typeOf t)).before args s = true) {n : Int32} (hn : ¬ n < 0) (hbytes : n.toNatClampNeg * abt k ≤ 536870912) (hcells : cells + 1 ≤ R.cells) (hslots : slots + n.toNatClampNeg ≤ R.slots) (hdg : decode cc pc = .ok (.newarray t, 2))
    (kk : ∀ H1 : Heap, HW true G A (nA w k n.toNatClampNeg) H1 → va_S A H0 H1 locs → W p l e R s m args below meth c0 H1 locs (cells + 1) (slots + n.toNatClampNeg) Q (F0 m (pc + 2) ls (.ref (gad G (wN w)) :: rest))) : W p l e R s m args below meth c0 H locs cells slots Q (F0 m pc ls (.int n :: rest)) := by
  obtain ⟨s1, -, -⟩ := hH.2.2 rfl
  have hk : 11 ≤ k ∧ k < 15 := by cases t <;> cases ht <;> omega
  have hbt : componentBytes (newarray.typeOf t) = abt k := by cases t <;> cases ht <;> rfl
  refine va_newaK hx hb harr rfl hdg rfl hn rfl (by rw [hbt]; exact hbytes) hcells hslots s1 fun H1 cA e1 z1 o1 hAr hNm => ?_
  rw [← s1] at z1 o1
  have e0 : wK (nA w k n.toNatClampNeg) (wN w) = k := by simp [wK, nA, u1]
  have e2 : wL (nA w k n.toNatClampNeg) (wN w) = n.toNatClampNeg := by simp [wL, nA, u1]
  refine kk H1 (hH.fresh rfl rfl z1 o1 (Or.inr ⟨by rw [e0]; omega, by rw [e0]; omega, ?_⟩) (fun b hb' => ?_) (fun b hb' _ _ => rfl) (fun b hb' => arW_nA hb')) (hS.push z1 o1)
  · rw [e1]
    have e3 : ∀ j, wX (nA w k n.toNatClampNeg) (wN w) j = 0 := fun j => by simp [wX, nA, ur]
    have e4 : ∀ j, wY (nA w k n.toNatClampNeg) (wN w) j = 0 := fun j => by simp [wY, nA, ur]
    have key : cA = gA G (k - 11) ∧ arW G (nA w k n.toNatClampNeg) (wN w) = arrV (gA G (k - 11)) n.toNatClampNeg (fun _ => defaultValue (newarray.typeOf t)) := by
      unfold arW
      simp only [e0, e2, e3, e4]
      cases t <;> cases ht
      · exact ⟨Option.some.inj (hNm.symm.trans (hK.2 3 _ rfl).2), rfl⟩
      · exact ⟨Option.some.inj (hNm.symm.trans (hK.2 0 _ rfl).2), rfl⟩
      · exact ⟨Option.some.inj (hNm.symm.trans (hK.2 1 _ rfl).2), rfl⟩
      · exact ⟨Option.some.inj (hNm.symm.trans (hK.2 2 _ rfl).2), rfl⟩
    rw [key.2, key.1]
  · have hne : b ≠ wN w := Nat.ne_of_lt hb'
    simp [wK, nA, u1, hne]
/-- arrays of Ends (15) and of Sights (16) -/
theorem x_anew (hx : p.tables.exec = Jvm.exec) (hb : c0.code = cc) (hown : s.vm.findClass own = some m.cls) (hK : KW G s) (hH : HW true G A w H) (hS : va_S A H0 H locs) {i k : Nat} (hk : k = 15 ∨ k = 16) {C : String} (hC : arty (k - 11) = .object C) (hlink : (Cond.classLink own i C).before args s = true) (hover : (Cond.arrayOver (.object C)).before args s = true) {n : Int32} (hn : ¬ n < 0) (hbytes : n.toNatClampNeg * 4 ≤ 536870912) (hcells : cells + 1 ≤ R.cells) (hslots : slots + n.toNatClampNeg ≤ R.slots) (hdg : decode cc pc = .ok (.anewarray i, 3))
    (kk : ∀ H1 : Heap, HW true G A (nA w k n.toNatClampNeg) H1 → va_S A H0 H1 locs → W p l e R s m args below meth c0 H1 locs (cells + 1) (slots + n.toNatClampNeg) Q (F0 m (pc + 3) ls (.ref (gad G (wN w)) :: rest))) : W p l e R s m args below meth c0 H locs cells slots Q (F0 m pc ls (.int n :: rest)) := by
  obtain ⟨s1, -, -⟩ := hH.2.2 rfl
  refine W.anew hx hb hown hlink hover rfl hdg rfl hn hbytes hcells hslots fun cA kA comp f1 f2 f3 f4 => ?_
  generalize hH1 : H.push ({ cls := cA, slots := Array.replicate n.toNatClampNeg .null, vm := .none } : Cell) = H1
  have z1 : H1.size = H.size + 1 := by rw [← hH1, Array.size_push]
  have e1 : H1[H.size]? = some (arrV cA n.toNatClampNeg (fun _ => .null)) := by rw [← hH1, Array.getElem?_push_size, ← arrV_new]
  have o1 : ∀ q : Nat, q < H.size → H1[q]? = H[q]? := fun q hq => by rw [← hH1, Array.getElem?_push, if_neg (Nat.ne_of_lt hq)]
  have e0 : wK (nA w k n.toNatClampNeg) (wN w) = k := by simp [wK, nA, u1]
  have e2 : wL (nA w k n.toNatClampNeg) (wN w) = n.toNatClampNeg := by simp [wL, nA, u1]
  have e3 : ∀ j, wZ (nA w k n.toNatClampNeg) (wN w) j = none := fun j => by simp [wZ, nA, ur]
  have hcA : cA = gA G (k - 11) := by
    rcases hk with rfl | rfl
    · have hC' : C = "SharesComing$Ends" := by simpa [arty] using hC.symm
      subst hC'
      obtain ⟨_, _, -, -, -, h4⟩ := (hK.2 4 _ rfl).2
      exact Option.some.inj (f1.symm.trans h4)
    · have hC' : C = "SharesComing$Sight" := by simpa [arty] using hC.symm
      subst hC'
      obtain ⟨_, _, -, -, -, h4⟩ := (hK.2 5 _ rfl).2
      exact Option.some.inj (f1.symm.trans h4)
  rw [s1]
  refine kk H1 (hH.fresh rfl rfl z1 o1 (Or.inr ⟨by rw [e0]; omega, by rw [e0]; omega, ?_⟩) (fun b hb' => ?_) (fun b hb' _ _ => rfl) (fun b hb' => arW_nA hb')) (hS.push z1 o1)
  · rw [← s1, e1, hcA]
    unfold arW
    simp only [e0, e2, e3]
    rcases hk with rfl | rfl <;> rfl
  · have hne : b ≠ wN w := Nat.ne_of_lt hb'
    simp [wK, nA, u1, hne]
theorem x_aast {al : Bool} (hx : p.tables.exec = Jvm.exec) (hb : c0.code = cc) (hK : KW G s) (hH : HW al G A w H) (hS : va_S A H0 H locs) {a v : Nat} (hkd : (Kd w a 15 ∧ Kd w v 1) ∨ (Kd w a 16 ∧ Kd w v 5)) {i : Int32} (hin : vp_in i (wL w a)) (hdg : decode cc pc = .ok (.aastore, 1))
    (kk : ∀ (H1 : Heap) (locs1 : List Loc), HW al G A (uZ w a i.toNatClampNeg (some v)) H1 → va_S A H0 H1 locs1 → W p l e R s m args below meth c0 H1 locs1 cells slots Q (F0 m (pc + 1) ls rest)) : W p l e R s m args below meth c0 H locs cells slots Q (F0 m pc ls (.ref (gad G v) :: .int i :: .ref (gad G a) :: rest)) := by
  have hlt : i.toNatClampNeg < wL w a := Nat.not_le.mp fun q => hin (Or.inr q)
  have h0 : ¬ i < 0 := fun q => hin (Or.inl q)
  have go : ∀ (t cv0 : Nat) (C : String) (r : vw_C), t = 4 ∨ t = 5 → Kd w a (t + 11) → Kd w v cv0 → vwCl[cv0]? = some r → (tysG G)[t]? = some (gA G t, .object r.1) → W p l e R s m args below meth c0 H locs cells slots Q (F0 m pc ls (.ref (gad G v) :: .int i :: .ref (gad G a) :: rest)) := by
    intro t cv0 C r ht hka hkv hr htt
    have hc := (hH.arr hka (by omega)).2
    have hra : arW G w a = arrV (gA G t) (wL w a) (fun j => cv G (rfv (wZ w a j))) := by
      have := hka.2
      rcases ht with rfl | rfl <;> simp [arW, this]
    rw [hra] at hc
    obtain ⟨cellV, g1, g2, g3, -⟩ := hH.obj hkv hr
    have hcls := (hK.1 cv0 r hr).2
    obtain ⟨kA, comp, k1, k2, k3, -⟩ := (hK.2 t _ htt).2
    have hcomp : comp = (gD G).1 cv0 := Option.some.inj (k3.symm.trans hcls.1)
    subst hcomp
    obtain ⟨kC, hkC, -⟩ := hcls.2
    refine W.aast hx hb hc (fun q h => by cases h) (fun h => by cases h) k1 k2 rfl hkC ⟨h0, by rw [arrV_size]; exact hlt⟩ g1 (fun q h => by rw [g3] at h; cases h) (by rw [g2]; exact hkC) (by rw [g2]; exact va_assign hcls) rfl rfl hdg fun H1 e1 z oq => ?_
    refine kk H1 _ (hH.upd (a := a) rfl z oq (Or.inr ⟨by show 11 ≤ wK w a; rw [hka.2]; omega, by show wK w a < 17; rw [hka.2]; omega, ?_⟩) (fun _ _ _ => rfl) (fun _ _ _ _ _ => rfl) (fun b _ hb => arW_uZ hb)) (hS.put z oq (hH.1 a hka.1).2)
    rw [e1, arrV_store]
    have hr2 : arW G (uZ w a i.toNatClampNeg (some v)) a = arrV (gA G t) (wL w a) (fun j => cv G (rfv (wZ (uZ w a i.toNatClampNeg (some v)) a j))) := by
      have : wK (uZ w a i.toNatClampNeg (some v)) a = t + 11 := hka.2
      rcases ht with rfl | rfl <;> (simp only [arW, this]; rfl)
    rw [hr2]
    congr 2
    funext q
    by_cases hq : q = i.toNatClampNeg
    · subst hq
      simp [updV, wZ, uZ, u2, rfv, cv]
    · simp [updV, wZ, uZ, u2, hq]
  rcases hkd with ⟨h1, h2⟩ | ⟨h1, h2⟩
  · exact go 4 1 "" _ (Or.inl rfl) h1 h2 rfl rfl
  · exact go 5 5 "" _ (Or.inr rfl) h1 h2 rfl rfl
end MNEW
