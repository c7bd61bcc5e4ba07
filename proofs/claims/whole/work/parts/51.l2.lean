/-! Methods that change references or make arrays: words. -/
noncomputable def ckc {α : Type} (c : Prop) (k : Option α) : Option α := @ck α c (Classical.propDecidable c) k
theorem ckc_some {α : Type} {c : Prop} {k : Option α} {x : α} (h : ckc c k = some x) : c ∧ k = some x := ck_some h
theorem ckc_t {α : Type} {c : Prop} {k : Option α} (h : c) : ckc c k = k := by unfold ckc; exact ck_t h
def b4 {α β : Type} (o : Option (α × Mm × St)) (k : α → Mm → St → Option β) : Option β := match o with
  | none => none
  | some a => k a.1 a.2.1 a.2.2
def b5 {β : Type} (o : Option (Mm × St)) (k : Mm → St → Option β) : Option β := match o with
  | none => none
  | some a => k a.1 a.2
theorem b4_some {α β : Type} {o : Option (α × Mm × St)} {k : α → Mm → St → Option β} {x : β} (h : b4 o k = some x) : ∃ a m S, o = some (a, m, S) ∧ k a m S = some x := by
  unfold b4 at h
  split at h
  · cases h
  · exact ⟨_, _, _, rfl, h⟩
theorem b5_some {β : Type} {o : Option (Mm × St)} {k : Mm → St → Option β} {x : β} (h : b5 o k = some x) : ∃ m S, o = some (m, S) ∧ k m S = some x := by
  unfold b5 at h
  split at h
  · cases h
  · exact ⟨_, _, rfl, h⟩
/-- a reference is put; an array is made -/
def sR (S : St) (a k t : Nat) : St := (u2 S.1 a k (some t), S.2)
def aM (m : Mm) (S : St) : Mm := (m.1, m.2.1, ur m.2.2.1 S.2.2.2.2.1 (fun _ => 0), ur m.2.2.2 S.2.2.2.2.1 (fun _ => 0))
def aS (S : St) (t n : Nat) : St := (S.1, u1 S.2.1 S.2.2.2.2.1 t, u1 S.2.2.1 S.2.2.2.2.1 n, ur S.2.2.2.1 S.2.2.2.2.1 (fun _ => none), S.2.2.2.2.1 + 1, S.2.2.2.2.2 + n)
section L2ROWS
variable {xs : Nat → Int32} {L : Nat} {C : Cr} {mid pc : Nat} {lv : Lc} {rest : List Value} {m : Mm} {S : St} {r : Option Value} {w' : Wd} {i a c k0 : Nat}
theorem ppR {al : Bool} {t : Nat} (h1 : cd mid pc = some (.putfield i, 3)) (h2 : fl (mO mid) i = some (c, k0)) (h3 : fty c k0 = 2) (hf : fin c k0 = false) (hk : Kd (m, S) a c) (k : RN xs L al C mid (pc + 3) lv rest (m, sR S a k0 t) r w') : RN xs L al C mid pc lv (.ref t :: .ref a :: rest) (m, S) r w' := rpR h1 h2 h3 (Or.inl hf) hk k
theorem pnA {t : ArrayType} {n : Int32} {kt : Nat} (h1 : cd mid pc = some (.newarray t, 2)) (h2 : akd t = some kt) (hn : ¬ n < 0 ∧ n.toNatClampNeg * abt kt ≤ 536870912) (k : RN xs L true C mid (pc + 2) lv (.ref S.2.2.2.2.1 :: rest) (aM m S, aS S kt n.toNatClampNeg) r w') : RN xs L true C mid pc lv (.int n :: rest) (m, S) r w' := rm h1 ⟨rfl, rfl, n, rest, kt, rfl, h2, hn.1, hn.2, rfl, rfl⟩ k
end L2ROWS
noncomputable def f_Table_makeReady (N : Nat) (S : St) (x0 : Nat) (x1 : Int32) (x2 : Int32) (m : Mm) : Option (Mm × St) := (if ((mI m x0 1)) = 0 then b1 (S.1 x0 0) fun t2 => (jn (fun (m3 : Mm) (S4 : St) => b1 (S4.1 x0 0) fun t5 => b3 (f_Arrays_fill2 N S4 t5 ((-9223372036854775808)) m3) fun m6 => some ((vI m6 x0 1 1), S4)) (fun j38 => if x1 ≤ ((Int32.ofNat ((S.2.2.1 t2)))) then j38 m S else b1 (S.1 x0 0) fun t8 => ck (¬ ((if x1 < ((if x2 < ((2 * ((Int32.ofNat ((S.2.2.1 t8)))))) then x2 else ((2 * ((Int32.ofNat ((S.2.2.1 t8)))))))) then ((if x2 < ((2 * ((Int32.ofNat ((S.2.2.1 t8)))))) then x2 else ((2 * ((Int32.ofNat ((S.2.2.1 t8)))))))) else x1)) < 0 ∧ ((if x1 < ((if x2 < ((2 * ((Int32.ofNat ((S.2.2.1 t8)))))) then x2 else ((2 * ((Int32.ofNat ((S.2.2.1 t8)))))))) then ((if x2 < ((2 * ((Int32.ofNat ((S.2.2.1 t8)))))) then x2 else ((2 * ((Int32.ofNat ((S.2.2.1 t8)))))))) else x1)).toNatClampNeg * abt 13 ≤ 536870912) (jn S.2.2.2.2.1 (fun q9 => jn (aM m S) (fun m9 => jn (aS S 13 ((if x1 < ((if x2 < ((2 * ((Int32.ofNat ((S.2.2.1 t8)))))) then x2 else ((2 * ((Int32.ofNat ((S.2.2.1 t8)))))))) then ((if x2 < ((2 * ((Int32.ofNat ((S.2.2.1 t8)))))) then x2 else ((2 * ((Int32.ofNat ((S.2.2.1 t8)))))))) else x1)).toNatClampNeg) (fun S9 => ckc (ShC S9) (jn (sR S9 x0 0 q9) (fun S10 => ckc (ShC S10) (j38 m9 S10))))))))) else some (m, S))
set_option maxRecDepth 20000 in
set_option maxHeartbeats 4000000 in
theorem e_Table_makeReady {xs : Nat → Int32} {L : Nat} (N : Nat) {d : Nat} (hd : 2 ≤ d) {S : St} (hSh : ShC S) {x0 : Nat} {x1 : Int32} {x2 : Int32} (hx0 : x0 ∈ tKl) {m : Mm} {mf : Mm} {Sf : St} (h : f_Table_makeReady N S x0 x1 x2 m = some (mf, Sf)) : Ev xs L true d 78 [.ref x0, .int x1, .int x2] (m, S) none (mf, Sf) := by
  obtain ⟨d, rfl⟩ : ∃ e, d = e + 1 := ⟨d - 1, by omega⟩
  refine ev_of (by decide) (Nat.le_of_ble_eq_true rfl) ?_
  rw [f_Table_makeReady] at h
  show RN xs L true (Ev xs L true d) 78 0 [(0, .ref x0), (1, .int x1), (2, .int x2)] [] (m, S) none (mf, Sf)
  refine rsn 1 (t := (1, [(0, .ref x0), (1, .int x1), (2, .int x2)], [.ref x0])) rfl ?_
  refine pgI rfl rfl rfl (hSh.kT hx0 _) ?_
  show RN xs L true (Ev xs L true d) 78 4 [(0, .ref x0), (1, .int x1), (2, .int x2)] [.int ((mI m x0 1))] (m, S) none (mf, Sf)
  by_cases c1 : ((mI m x0 1)) = 0
  · rw [if_pos c1] at h
    refine rjt (a := (8, [(0, .ref x0), (1, .int x1), (2, .int x2)], [])) (b := (7, [(0, .ref x0), (1, .int x1), (2, .int x2)], [])) rfl rfl c1 ?_
    refine rsn 2 (t := (10, [(0, .ref x0), (1, .int x1), (2, .int x2)], [.ref x0, .int x1])) rfl ?_
    obtain ⟨t2, g2, h⟩ := b1_some h
    refine rgR rfl rfl rfl (hSh.kT hx0 _) g2 ?_
    refine rxL rfl (hSh.kF hx0 g2 _) (by decide) rfl ?_
    show RN xs L true (Ev xs L true d) 78 14 [(0, .ref x0), (1, .int x1), (2, .int x2)] [.int ((Int32.ofNat ((S.2.2.1 t2)))), .int x1] (m, S) none (mf, Sf)
    have jp38 : ∀ (m3 : Mm) (S4 : St) (hSh4 : ShC S4), (b1 (S4.1 x0 0) fun t5 => b3 (f_Arrays_fill2 N S4 t5 ((-9223372036854775808)) m3) fun m6 => some ((vI m6 x0 1 1), S4)) = some (mf, Sf) → RN xs L true (Ev xs L true d) 78 38 [(0, .ref x0)] [] (m3, S4) none (mf, Sf) := by
      intro m3 S4 hSh4 h
      try dsimp only at h
      refine rsn 1 (t := (39, [(0, .ref x0)], [.ref x0])) rfl ?_
      obtain ⟨t5, g5, h⟩ := b1_some h
      refine rgR rfl rfl rfl (hSh4.kT hx0 _) g5 ?_
      refine rsn 1 (t := (45, [(0, .ref x0)], [.long ((-9223372036854775808)), .ref t5])) rfl ?_
      obtain ⟨m6, g6, h⟩ := b3_some h
      refine rcS 79 [.ref t5, .long ((-9223372036854775808))] rfl rfl rfl (Nat.le_of_ble_eq_true rfl) rfl (e_Arrays_fill2 N (by omega) hSh4 (fun m => (hSh4.kF hx0 g5 m)) g6) ?_
      show RN xs L true (Ev xs L true d) 78 48 [(0, .ref x0)] [] (m6, S4) none (mf, Sf)
      refine rsn 2 (t := (50, [(0, .ref x0)], [.int 1, .ref x0])) rfl ?_
      refine ppZ rfl rfl rfl rfl (hSh4.kT hx0 _) (Or.inr rfl) ?_
      obtain ⟨h, h2⟩ := Prod.mk.inj (Option.some.inj h)
      subst h
      subst h2
      exact rret rfl ⟨rfl, rfl, rfl, rfl, rfl⟩
    rw [jn] at h
    try dsimp only at h
    by_cases c7 : x1 ≤ ((Int32.ofNat ((S.2.2.1 t2))))
    · rw [if_pos c7] at h
      refine rjt (a := (38, [(0, .ref x0), (1, .int x1), (2, .int x2)], [])) (b := (17, [(0, .ref x0), (1, .int x1), (2, .int x2)], [])) rfl rfl c7 ?_
      exact rsub [(0, .ref x0)] ⟨rfl, trivial⟩ ⟨rfl, trivial⟩ (jp38 m S hSh h)
    · rw [if_neg c7] at h
      refine rjf (a := (38, [(0, .ref x0), (1, .int x1), (2, .int x2)], [])) (b := (17, [(0, .ref x0), (1, .int x1), (2, .int x2)], [])) rfl rfl c7 ?_
      refine rsn 4 (t := (21, [(0, .ref x0), (1, .int x1), (2, .int x2)], [.ref x0, .int 2, .int x1, .ref x0])) rfl ?_
      obtain ⟨t8, g8, h⟩ := b1_some h
      refine rgR rfl rfl rfl (hSh.kT hx0 _) g8 ?_
      refine rxL rfl (hSh.kF hx0 g8 _) (by decide) rfl ?_
      show RN xs L true (Ev xs L true d) 78 25 [(0, .ref x0), (1, .int x1), (2, .int x2)] [.int ((Int32.ofNat ((S.2.2.1 t8)))), .int 2, .int x1, .ref x0] (m, S) none (mf, Sf)
      refine rsn 2 (t := (27, [(0, .ref x0), (1, .int x1), (2, .int x2)], [.int x2, .int ((2 * ((Int32.ofNat ((S.2.2.1 t8)))))), .int x1, .ref x0])) rfl ?_
      refine rm (st1 := [.int ((if x2 < ((2 * ((Int32.ofNat ((S.2.2.1 t8)))))) then x2 else ((2 * ((Int32.ofNat ((S.2.2.1 t8)))))))), .int x1, .ref x0]) rfl ⟨rfl, rfl, 2, [.int x1, .ref x0], rfl, Nat.le_of_ble_eq_true rfl, Or.inr (Or.inr (Or.inl ⟨rfl, _, _, rfl, rfl⟩))⟩ ?_
      refine rm (st1 := [.int ((if x1 < ((if x2 < ((2 * ((Int32.ofNat ((S.2.2.1 t8)))))) then x2 else ((2 * ((Int32.ofNat ((S.2.2.1 t8)))))))) then ((if x2 < ((2 * ((Int32.ofNat ((S.2.2.1 t8)))))) then x2 else ((2 * ((Int32.ofNat ((S.2.2.1 t8)))))))) else x1)), .ref x0]) rfl ⟨rfl, rfl, 0, [.ref x0], rfl, Nat.le_of_ble_eq_true rfl, Or.inl ⟨rfl, _, _, rfl, rfl⟩⟩ ?_
      obtain ⟨c9, h⟩ := ck_some h
      refine pnA rfl rfl c9 ?_
      rw [jn] at h
      try dsimp only at h
      rw [jn] at h
      try dsimp only at h
      rw [jn] at h
      try dsimp only at h
      generalize hq9 : S.2.2.2.2.1 = q9 at h ⊢
      generalize aM m S = m9 at h ⊢
      generalize aS S 13 ((if x1 < ((if x2 < ((2 * ((Int32.ofNat ((S.2.2.1 t8)))))) then x2 else ((2 * ((Int32.ofNat ((S.2.2.1 t8)))))))) then ((if x2 < ((2 * ((Int32.ofNat ((S.2.2.1 t8)))))) then x2 else ((2 * ((Int32.ofNat ((S.2.2.1 t8)))))))) else x1)).toNatClampNeg = S9 at h ⊢
      obtain ⟨hSh9, h⟩ := ckc_some h
      refine ppR rfl rfl rfl rfl (hSh9.kT hx0 _) ?_
      rw [jn] at h
      try dsimp only at h
      generalize sR S9 x0 0 q9 = S10 at h ⊢
      obtain ⟨hSh10, h⟩ := ckc_some h
      exact rsub [(0, .ref x0)] ⟨rfl, trivial⟩ ⟨rfl, trivial⟩ (jp38 m9 S10 hSh10 h)
  · rw [if_neg c1] at h
    refine rjf (a := (8, [(0, .ref x0), (1, .int x1), (2, .int x2)], [])) (b := (7, [(0, .ref x0), (1, .int x1), (2, .int x2)], [])) rfl rfl c1 ?_
    obtain ⟨h, h2⟩ := Prod.mk.inj (Option.some.inj h)
    subst h
    subst h2
    exact rret rfl ⟨rfl, rfl, rfl, rfl, rfl⟩
noncomputable def f_Sight_endsBy (N : Nat) (S : St) (x0 : Nat) (x1 : Nat) (m : Mm) : Option (Mm × St) := jn (sR S x0 4 x1) (fun S1 => ckc (ShC S1) (some (m, S1)))
set_option maxRecDepth 20000 in
set_option maxHeartbeats 4000000 in
theorem e_Sight_endsBy {xs : Nat → Int32} {L : Nat} (N : Nat) {d : Nat} (hd : 1 ≤ d) {S : St} (hSh : ShC S) {x0 : Nat} {x1 : Nat} (hx0 : x0 ∈ sKl) (hx1 : x1 ∈ eKl) {m : Mm} {mf : Mm} {Sf : St} (h : f_Sight_endsBy N S x0 x1 m = some (mf, Sf)) : Ev xs L true d 100 [.ref x0, .ref x1] (m, S) none (mf, Sf) := by
  obtain ⟨d, rfl⟩ : ∃ e, d = e + 1 := ⟨d - 1, by omega⟩
  refine ev_of (by decide) (Nat.le_of_ble_eq_true rfl) ?_
  rw [f_Sight_endsBy] at h
  show RN xs L true (Ev xs L true d) 100 0 [(0, .ref x0), (1, .ref x1)] [] (m, S) none (mf, Sf)
  refine rsn 2 (t := (2, [(0, .ref x0), (1, .ref x1)], [.ref x1, .ref x0])) rfl ?_
  refine ppR rfl rfl rfl rfl (hSh.kS hx0 _) ?_
  rw [jn] at h
  try dsimp only at h
  generalize sR S x0 4 x1 = S1 at h ⊢
  obtain ⟨hSh1, h⟩ := ckc_some h
  obtain ⟨h, h2⟩ := Prod.mk.inj (Option.some.inj h)
  subst h
  subst h2
  exact rret rfl ⟨rfl, rfl, rfl, rfl, rfl⟩
noncomputable def f_Ways_goBy (N : Nat) (S : St) (x1 : Int32) (x2 : Int32) (x3 : Nat) (m : Mm) : Option (Mm × St) := ck (x2 = 0 ∨ x2 = 1) (jn (sR S 97 4 x3) (fun S2 => ckc (ShC S2) (some ((vI (vI m 97 2 x1) 97 3 x2), S2))))
set_option maxRecDepth 20000 in
set_option maxHeartbeats 4000000 in
theorem e_Ways_goBy {xs : Nat → Int32} {L : Nat} (N : Nat) {d : Nat} (hd : 1 ≤ d) {S : St} (hSh : ShC S) {x1 : Int32} {x2 : Int32} {x3 : Nat} (hx3 : x3 ∈ eKl) {m : Mm} {mf : Mm} {Sf : St} (h : f_Ways_goBy N S x1 x2 x3 m = some (mf, Sf)) : Ev xs L true d 129 [.ref 97, .int x1, .int x2, .ref x3] (m, S) none (mf, Sf) := by
  obtain ⟨d, rfl⟩ : ∃ e, d = e + 1 := ⟨d - 1, by omega⟩
  refine ev_of (by decide) (Nat.le_of_ble_eq_true rfl) ?_
  rw [f_Ways_goBy] at h
  show RN xs L true (Ev xs L true d) 129 0 [(0, .ref 97), (1, .int x1), (2, .int x2), (3, .ref x3)] [] (m, S) none (mf, Sf)
  refine rsn 2 (t := (2, [(0, .ref 97), (1, .int x1), (2, .int x2), (3, .ref x3)], [.int x1, .ref 97])) rfl ?_
  refine ppI rfl rfl rfl rfl (hSh.1.k 97 rfl _) ?_
  refine rsn 2 (t := (7, [(0, .ref 97), (1, .int x1), (2, .int x2), (3, .ref x3)], [.int x2, .ref 97])) rfl ?_
  obtain ⟨c1, h⟩ := ck_some h
  refine ppZ rfl rfl rfl rfl (hSh.1.k 97 rfl _) c1 ?_
  refine rsn 2 (t := (12, [(0, .ref 97), (1, .int x1), (2, .int x2), (3, .ref x3)], [.ref x3, .ref 97])) rfl ?_
  refine ppR rfl rfl rfl rfl (hSh.1.k 97 rfl _) ?_
  rw [jn] at h
  try dsimp only at h
  generalize sR S 97 4 x3 = S2 at h ⊢
  obtain ⟨hSh2, h⟩ := ckc_some h
  obtain ⟨h, h2⟩ := Prod.mk.inj (Option.some.inj h)
  subst h
  subst h2
  exact rret rfl ⟨rfl, rfl, rfl, rfl, rfl⟩
noncomputable def f_Book_ends_L7 (N : Nat) (x2 : Int32) (x3 : Int32) (k7 : Int32 → Mm → St → Option (Nat × Mm × St)) : Nat → Int32 → Mm → St → Option (Nat × Mm × St)
  | 0, _, _, _ => none
  | n7 + 1, x4, m, S => (if x2 < x4 then k7 x4 m S else ck (ix ((x3 + x4)) 9) (b1 (f_Ranks_endPlaces N S m) fun r3 => b5 (f_Table_makeReady N S (((33 + 3 * ((x3 + x4)).toNatClampNeg) + 1)) r3 74256 m) fun m4 S4 => ckc (ShC S4) (f_Book_ends_L7 N x2 x3 k7 n7 ((x4 + 1)) m4 S4)))
noncomputable def f_Book_ends (N : Nat) (S : St) (x1 : Int32) (x2 : Int32) (m : Mm) : Option (Nat × Mm × St) := f_Book_ends_L7 N x2 ((x1 * 3)) (fun (z5_4 : Int32) (m5 : Mm) (S5 : St) => ck (ix ((((x1 * 3)) + x2)) 9) (some ((33 + 3 * ((((x1 * 3)) + x2)).toNatClampNeg), m5, S5))) N 0 m S
set_option maxRecDepth 20000 in
set_option maxHeartbeats 4000000 in
theorem e_Book_ends {xs : Nat → Int32} {L : Nat} (N : Nat) {d : Nat} (hd : 3 ≤ d) {S : St} (hSh : ShC S) {x1 : Int32} {x2 : Int32} {m : Mm} {r0 : Nat} {mf : Mm} {Sf : St} (h : f_Book_ends N S x1 x2 m = some (r0, mf, Sf)) : Ev xs L true d 76 [.ref 17, .int x1, .int x2] (m, S) (some (.ref r0)) (mf, Sf) := by
  obtain ⟨d, rfl⟩ : ∃ e, d = e + 1 := ⟨d - 1, by omega⟩
  refine ev_of (by decide) (Nat.le_of_ble_eq_true rfl) ?_
  rw [f_Book_ends] at h
  show RN xs L true (Ev xs L true d) 76 0 [(0, .ref 17), (1, .int x1), (2, .int x2)] [] (m, S) (some (.ref r0)) (mf, Sf)
  refine rsn 6 (t := (7, [(4, .int 0), (3, .int ((x1 * 3))), (0, .ref 17), (1, .int x1), (2, .int x2)], [])) rfl ?_
  have ex7 : ∀ (z5_4 : Int32) (m5 : Mm) (S5 : St) (hSh5 : ShC S5), (ck (ix ((((x1 * 3)) + x2)) 9) (some ((33 + 3 * ((((x1 * 3)) + x2)).toNatClampNeg), m5, S5))) = some (r0, mf, Sf) → RN xs L true (Ev xs L true d) 76 43 [(0, .ref 17), (2, .int x2), (3, .int ((x1 * 3)))] [] (m5, S5) (some (.ref r0)) (mf, Sf) := by
    intro z5_4 m5 S5 hSh5 h
    try dsimp only at h
    refine rsn 1 (t := (44, [(0, .ref 17), (2, .int x2), (3, .int ((x1 * 3)))], [.ref 17])) rfl ?_
    refine rgR rfl rfl rfl (hSh5.1.k 17 rfl _) (hSh5.1.r 98 rfl _) ?_
    refine rsn 3 (t := (50, [(0, .ref 17), (2, .int x2), (3, .int ((x1 * 3)))], [.int ((((x1 * 3)) + x2)), .ref 32])) rfl ?_
    obtain ⟨c6, h⟩ := ck_some h
    refine rxA (t := (33 + 3 * ((((x1 * 3)) + x2)).toNatClampNeg)) rfl (Or.inl (hSh5.1.k 32 rfl _)) (hSh5.1.l 24 rfl _) c6 (hSh5.zE c6) ?_
    obtain ⟨h, h2⟩ := Prod.mk.inj (Option.some.inj h)
    obtain ⟨h2, h3⟩ := Prod.mk.inj h2
    subst h
    subst h2
    subst h3
    exact rret rfl ⟨rfl, rfl, _, _, rfl, rfl, rfl⟩
  have lp7 : ∀ (n : Nat) (y7_4 : Int32) (m7 : Mm) (S7 : St) (hSh7 : ShC S7), (f_Book_ends_L7 N x2 ((x1 * 3)) (fun (z5_4 : Int32) (m5 : Mm) (S5 : St) => ck (ix ((((x1 * 3)) + x2)) 9) (some ((33 + 3 * ((((x1 * 3)) + x2)).toNatClampNeg), m5, S5))) n y7_4 m7 S7) = some (r0, mf, Sf) → RN xs L true (Ev xs L true d) 76 7 [(0, .ref 17), (2, .int x2), (3, .int ((x1 * 3))), (4, .int y7_4)] [] (m7, S7) (some (.ref r0)) (mf, Sf) := by
    intro n
    induction n with
    | zero => intro y7_4 m7 S7 hSh7 h; exact absurd h (by simp [f_Book_ends_L7])
    | succ n7 ih7 =>
      intro y7_4 m7 S7 hSh7 h
      try dsimp only at h
      rw [f_Book_ends_L7] at h
      try dsimp only at h
      refine rsn 2 (t := (10, [(0, .ref 17), (2, .int x2), (3, .int ((x1 * 3))), (4, .int y7_4)], [.int x2, .int y7_4])) rfl ?_
      by_cases c8 : x2 < y7_4
      · rw [if_pos c8] at h
        refine rjt (a := (43, [(0, .ref 17), (2, .int x2), (3, .int ((x1 * 3))), (4, .int y7_4)], [])) (b := (13, [(0, .ref 17), (2, .int x2), (3, .int ((x1 * 3))), (4, .int y7_4)], [])) rfl rfl c8 ?_
        exact rsub [(0, .ref 17), (2, .int x2), (3, .int ((x1 * 3)))] ⟨rfl, ⟨rfl, ⟨rfl, trivial⟩⟩⟩ ⟨rfl, ⟨rfl, ⟨rfl, trivial⟩⟩⟩ (ex7 y7_4 m7 S7 hSh7 h)
      · rw [if_neg c8] at h
        refine rjf (a := (43, [(0, .ref 17), (2, .int x2), (3, .int ((x1 * 3))), (4, .int y7_4)], [])) (b := (13, [(0, .ref 17), (2, .int x2), (3, .int ((x1 * 3))), (4, .int y7_4)], [])) rfl rfl c8 ?_
        refine rsn 1 (t := (14, [(0, .ref 17), (2, .int x2), (3, .int ((x1 * 3))), (4, .int y7_4)], [.ref 17])) rfl ?_
        refine rgR rfl rfl rfl (hSh7.1.k 17 rfl _) (hSh7.1.r 98 rfl _) ?_
        refine rsn 3 (t := (21, [(0, .ref 17), (2, .int x2), (3, .int ((x1 * 3))), (4, .int y7_4)], [.int ((((x1 * 3)) + y7_4)), .ref 32])) rfl ?_
        obtain ⟨c9, h⟩ := ck_some h
        refine rxA (t := (33 + 3 * ((((x1 * 3)) + y7_4)).toNatClampNeg)) rfl (Or.inl (hSh7.1.k 32 rfl _)) (hSh7.1.l 24 rfl _) c9 (hSh7.zE c9) ?_
        refine rgR rfl rfl rfl (hSh7.kE (eK_i c9) _) (hSh7.rE0 (eK_i c9) _) ?_
        refine rsn 1 (t := (26, [(0, .ref 17), (2, .int x2), (3, .int ((x1 * 3))), (4, .int y7_4)], [.ref 17, .ref (((33 + 3 * ((((x1 * 3)) + y7_4)).toNatClampNeg) + 1))])) rfl ?_
        refine rgR rfl rfl rfl (hSh7.1.k 17 rfl _) (hSh7.1.r 96 rfl _) ?_
        obtain ⟨r10, g10, h⟩ := b1_some h
        refine rcV 77 18 [] rfl rfl rfl (hSh7.1.k 18 rfl _) (Nat.le_of_ble_eq_true rfl) rfl (e_Ranks_endPlaces N (by omega) hSh7 g10) ?_
        show RN xs L true (Ev xs L true d) 76 32 [(0, .ref 17), (2, .int x2), (3, .int ((x1 * 3))), (4, .int y7_4)] [.int r10, .ref (((33 + 3 * ((((x1 * 3)) + y7_4)).toNatClampNeg) + 1))] (m7, S7) (some (.ref r0)) (mf, Sf)
        refine rsn 1 (t := (34, [(0, .ref 17), (2, .int x2), (3, .int ((x1 * 3))), (4, .int y7_4)], [.int 74256, .int r10, .ref (((33 + 3 * ((((x1 * 3)) + y7_4)).toNatClampNeg) + 1))])) rfl ?_
        obtain ⟨m11, S11, g11, h⟩ := b5_some h
        obtain ⟨hSh11, h⟩ := ckc_some h
        refine rcV 78 (((33 + 3 * ((((x1 * 3)) + y7_4)).toNatClampNeg) + 1)) [.int r10, .int 74256] rfl rfl rfl (hSh7.kT (eK_t (eK_i c9)) _) (Nat.le_of_ble_eq_true rfl) rfl (e_Table_makeReady N (by omega) hSh7 (eK_t (eK_i c9)) g11) ?_
        show RN xs L true (Ev xs L true d) 76 37 [(0, .ref 17), (2, .int x2), (3, .int ((x1 * 3))), (4, .int y7_4)] [] (m11, S11) (some (.ref r0)) (mf, Sf)
        refine rsn 2 (t := (7, [(4, .int ((y7_4 + 1))), (0, .ref 17), (2, .int x2), (3, .int ((x1 * 3)))], [])) rfl ?_
        exact rsub [(0, .ref 17), (2, .int x2), (3, .int ((x1 * 3))), (4, .int ((y7_4 + 1)))] ⟨rfl, ⟨rfl, ⟨rfl, ⟨rfl, trivial⟩⟩⟩⟩ ⟨rfl, ⟨rfl, ⟨rfl, ⟨rfl, trivial⟩⟩⟩⟩ (ih7 ((y7_4 + 1)) m11 S11 hSh11 h)
  exact rsub [(0, .ref 17), (2, .int x2), (3, .int ((x1 * 3))), (4, .int 0)] ⟨rfl, ⟨rfl, ⟨rfl, ⟨rfl, trivial⟩⟩⟩⟩ ⟨rfl, ⟨rfl, ⟨rfl, ⟨rfl, trivial⟩⟩⟩⟩ (lp7 N 0 m S hSh h)
noncomputable def f_Book_sight (N : Nat) (S : St) (x1 : Int32) (x2 : Int32) (m : Mm) : Option (Nat × Mm × St) := ck (ix ((((x1 * 4)) + x2)) 12) (b1 (f_Ranks_dayPlaces N S m) fun r2 => b5 (f_Table_makeReady N S (((61 + 3 * ((((x1 * 4)) + x2)).toNatClampNeg) + 1)) r2 34272 m) fun m3 S3 => ckc (ShC S3) ((if x2 = 3 then b4 (f_Book_ends N S3 x1 ((((mI m3 10 3)) + 1)) m3) fun r7 m7 S7 => ckc (ShC S7) (ck (r7 ∈ eKl) (b5 (f_Sight_endsBy N S7 ((61 + 3 * ((((x1 * 4)) + x2)).toNatClampNeg)) r7 m7) fun m8 S8 => ckc (ShC S8) (some ((61 + 3 * ((((x1 * 4)) + x2)).toNatClampNeg), m8, S8)))) else b4 (f_Book_ends N S3 x1 ((((mI m3 10 3)) + 0)) m3) fun r5 m5 S5 => ckc (ShC S5) (ck (r5 ∈ eKl) (b5 (f_Sight_endsBy N S5 ((61 + 3 * ((((x1 * 4)) + x2)).toNatClampNeg)) r5 m5) fun m6 S6 => ckc (ShC S6) (some ((61 + 3 * ((((x1 * 4)) + x2)).toNatClampNeg), m6, S6)))))))
set_option maxRecDepth 20000 in
set_option maxHeartbeats 4000000 in
theorem e_Book_sight {xs : Nat → Int32} {L : Nat} (N : Nat) {d : Nat} (hd : 4 ≤ d) {S : St} (hSh : ShC S) {x1 : Int32} {x2 : Int32} {m : Mm} {r0 : Nat} {mf : Mm} {Sf : St} (h : f_Book_sight N S x1 x2 m = some (r0, mf, Sf)) : Ev xs L true d 98 [.ref 17, .int x1, .int x2] (m, S) (some (.ref r0)) (mf, Sf) := by
  obtain ⟨d, rfl⟩ : ∃ e, d = e + 1 := ⟨d - 1, by omega⟩
  refine ev_of (by decide) (Nat.le_of_ble_eq_true rfl) ?_
  rw [f_Book_sight] at h
  show RN xs L true (Ev xs L true d) 98 0 [(0, .ref 17), (1, .int x1), (2, .int x2)] [] (m, S) (some (.ref r0)) (mf, Sf)
  refine rsn 1 (t := (1, [(0, .ref 17), (1, .int x1), (2, .int x2)], [.ref 17])) rfl ?_
  refine rgR rfl rfl rfl (hSh.1.k 17 rfl _) (hSh.1.r 99 rfl _) ?_
  refine rsn 5 (t := (9, [(0, .ref 17), (1, .int x1), (2, .int x2)], [.int ((((x1 * 4)) + x2)), .ref 60])) rfl ?_
  obtain ⟨c1, h⟩ := ck_some h
  refine rxA (t := (61 + 3 * ((((x1 * 4)) + x2)).toNatClampNeg)) rfl (Or.inr (hSh.1.k 60 rfl _)) (hSh.1.l 25 rfl _) c1 (hSh.zS c1) ?_
  refine rsn 2 (t := (12, [(3, .ref ((61 + 3 * ((((x1 * 4)) + x2)).toNatClampNeg))), (0, .ref 17), (1, .int x1), (2, .int x2)], [.ref ((61 + 3 * ((((x1 * 4)) + x2)).toNatClampNeg))])) rfl ?_
  refine rgR rfl rfl rfl (hSh.kS (sK_i c1) _) (hSh.rS0 (sK_i c1) _) ?_
  refine rsn 1 (t := (16, [(3, .ref ((61 + 3 * ((((x1 * 4)) + x2)).toNatClampNeg))), (0, .ref 17), (1, .int x1), (2, .int x2)], [.ref 17, .ref (((61 + 3 * ((((x1 * 4)) + x2)).toNatClampNeg) + 1))])) rfl ?_
  refine rgR rfl rfl rfl (hSh.1.k 17 rfl _) (hSh.1.r 96 rfl _) ?_
  obtain ⟨r2, g2, h⟩ := b1_some h
  refine rcV 99 18 [] rfl rfl rfl (hSh.1.k 18 rfl _) (Nat.le_of_ble_eq_true rfl) rfl (e_Ranks_dayPlaces N (by omega) hSh g2) ?_
  show RN xs L true (Ev xs L true d) 98 22 [(3, .ref ((61 + 3 * ((((x1 * 4)) + x2)).toNatClampNeg))), (0, .ref 17), (1, .int x1), (2, .int x2)] [.int r2, .ref (((61 + 3 * ((((x1 * 4)) + x2)).toNatClampNeg) + 1))] (m, S) (some (.ref r0)) (mf, Sf)
  refine rsn 1 (t := (24, [(3, .ref ((61 + 3 * ((((x1 * 4)) + x2)).toNatClampNeg))), (0, .ref 17), (1, .int x1), (2, .int x2)], [.int 34272, .int r2, .ref (((61 + 3 * ((((x1 * 4)) + x2)).toNatClampNeg) + 1))])) rfl ?_
  obtain ⟨m3, S3, g3, h⟩ := b5_some h
  obtain ⟨hSh3, h⟩ := ckc_some h
  refine rcV 78 (((61 + 3 * ((((x1 * 4)) + x2)).toNatClampNeg) + 1)) [.int r2, .int 34272] rfl rfl rfl (hSh.kT (sK_t (sK_i c1)) _) (Nat.le_of_ble_eq_true rfl) rfl (e_Table_makeReady N (by omega) hSh (sK_t (sK_i c1)) g3) ?_
  show RN xs L true (Ev xs L true d) 98 27 [(3, .ref ((61 + 3 * ((((x1 * 4)) + x2)).toNatClampNeg))), (0, .ref 17), (1, .int x1), (2, .int x2)] [] (m3, S3) (some (.ref r0)) (mf, Sf)
  refine rsn 4 (t := (31, [(3, .ref ((61 + 3 * ((((x1 * 4)) + x2)).toNatClampNeg))), (0, .ref 17), (1, .int x1), (2, .int x2)], [.ref 17, .int x1, .ref 17, .ref ((61 + 3 * ((((x1 * 4)) + x2)).toNatClampNeg))])) rfl ?_
  refine rgR rfl rfl rfl (hSh3.1.k 17 rfl _) (hSh3.1.r 95 rfl _) ?_
  refine pgI rfl rfl rfl (hSh3.1.k 10 rfl _) ?_
  show RN xs L true (Ev xs L true d) 98 37 [(3, .ref ((61 + 3 * ((((x1 * 4)) + x2)).toNatClampNeg))), (0, .ref 17), (1, .int x1), (2, .int x2)] [.int ((mI m3 10 3)), .int x1, .ref 17, .ref ((61 + 3 * ((((x1 * 4)) + x2)).toNatClampNeg))] (m3, S3) (some (.ref r0)) (mf, Sf)
  refine rsn 2 (t := (39, [(3, .ref ((61 + 3 * ((((x1 * 4)) + x2)).toNatClampNeg))), (0, .ref 17), (1, .int x1), (2, .int x2)], [.int 3, .int x2, .int ((mI m3 10 3)), .int x1, .ref 17, .ref ((61 + 3 * ((((x1 * 4)) + x2)).toNatClampNeg))])) rfl ?_
  by_cases c4 : x2 = 3
  · rw [if_pos c4] at h
    refine rjf (a := (46, [(3, .ref ((61 + 3 * ((((x1 * 4)) + x2)).toNatClampNeg))), (0, .ref 17), (1, .int x1), (2, .int x2)], [.int ((mI m3 10 3)), .int x1, .ref 17, .ref ((61 + 3 * ((((x1 * 4)) + x2)).toNatClampNeg))])) (b := (42, [(3, .ref ((61 + 3 * ((((x1 * 4)) + x2)).toNatClampNeg))), (0, .ref 17), (1, .int x1), (2, .int x2)], [.int ((mI m3 10 3)), .int x1, .ref 17, .ref ((61 + 3 * ((((x1 * 4)) + x2)).toNatClampNeg))])) rfl rfl (fun q => q c4) ?_
    refine rsn 3 (t := (48, [(3, .ref ((61 + 3 * ((((x1 * 4)) + x2)).toNatClampNeg))), (0, .ref 17), (1, .int x1), (2, .int x2)], [.int ((((mI m3 10 3)) + 1)), .int x1, .ref 17, .ref ((61 + 3 * ((((x1 * 4)) + x2)).toNatClampNeg))])) rfl ?_
    obtain ⟨r7, m7, S7, g7, h⟩ := b4_some h
    obtain ⟨hSh7, h⟩ := ckc_some h
    refine rcV 76 17 [.int x1, .int ((((mI m3 10 3)) + 1))] rfl rfl rfl (hSh3.1.k 17 rfl _) (Nat.le_of_ble_eq_true rfl) rfl (e_Book_ends N (by omega) hSh3 g7) ?_
    obtain ⟨c7, h⟩ := ck_some h
    show RN xs L true (Ev xs L true d) 98 51 [(3, .ref ((61 + 3 * ((((x1 * 4)) + x2)).toNatClampNeg))), (0, .ref 17), (1, .int x1), (2, .int x2)] [.ref r7, .ref ((61 + 3 * ((((x1 * 4)) + x2)).toNatClampNeg))] (m7, S7) (some (.ref r0)) (mf, Sf)
    obtain ⟨m8, S8, g8, h⟩ := b5_some h
    obtain ⟨hSh8, h⟩ := ckc_some h
    refine rcV 100 ((61 + 3 * ((((x1 * 4)) + x2)).toNatClampNeg)) [.ref r7] rfl rfl rfl (hSh7.kS (sK_i c1) _) (Nat.le_of_ble_eq_true rfl) rfl (e_Sight_endsBy N (by omega) hSh7 (sK_i c1) c7 g8) ?_
    show RN xs L true (Ev xs L true d) 98 54 [(3, .ref ((61 + 3 * ((((x1 * 4)) + x2)).toNatClampNeg))), (0, .ref 17), (1, .int x1), (2, .int x2)] [] (m8, S8) (some (.ref r0)) (mf, Sf)
    refine rsn 1 (t := (55, [(3, .ref ((61 + 3 * ((((x1 * 4)) + x2)).toNatClampNeg))), (0, .ref 17), (1, .int x1), (2, .int x2)], [.ref ((61 + 3 * ((((x1 * 4)) + x2)).toNatClampNeg))])) rfl ?_
    obtain ⟨h, h2⟩ := Prod.mk.inj (Option.some.inj h)
    obtain ⟨h2, h3⟩ := Prod.mk.inj h2
    subst h
    subst h2
    subst h3
    exact rret rfl ⟨rfl, rfl, _, _, rfl, rfl, rfl⟩
  · rw [if_neg c4] at h
    refine rjt (a := (46, [(3, .ref ((61 + 3 * ((((x1 * 4)) + x2)).toNatClampNeg))), (0, .ref 17), (1, .int x1), (2, .int x2)], [.int ((mI m3 10 3)), .int x1, .ref 17, .ref ((61 + 3 * ((((x1 * 4)) + x2)).toNatClampNeg))])) (b := (42, [(3, .ref ((61 + 3 * ((((x1 * 4)) + x2)).toNatClampNeg))), (0, .ref 17), (1, .int x1), (2, .int x2)], [.int ((mI m3 10 3)), .int x1, .ref 17, .ref ((61 + 3 * ((((x1 * 4)) + x2)).toNatClampNeg))])) rfl rfl c4 ?_
    refine rsn 2 (t := (48, [(3, .ref ((61 + 3 * ((((x1 * 4)) + x2)).toNatClampNeg))), (0, .ref 17), (1, .int x1), (2, .int x2)], [.int ((((mI m3 10 3)) + 0)), .int x1, .ref 17, .ref ((61 + 3 * ((((x1 * 4)) + x2)).toNatClampNeg))])) rfl ?_
    obtain ⟨r5, m5, S5, g5, h⟩ := b4_some h
    obtain ⟨hSh5, h⟩ := ckc_some h
    refine rcV 76 17 [.int x1, .int ((((mI m3 10 3)) + 0))] rfl rfl rfl (hSh3.1.k 17 rfl _) (Nat.le_of_ble_eq_true rfl) rfl (e_Book_ends N (by omega) hSh3 g5) ?_
    obtain ⟨c5, h⟩ := ck_some h
    show RN xs L true (Ev xs L true d) 98 51 [(3, .ref ((61 + 3 * ((((x1 * 4)) + x2)).toNatClampNeg))), (0, .ref 17), (1, .int x1), (2, .int x2)] [.ref r5, .ref ((61 + 3 * ((((x1 * 4)) + x2)).toNatClampNeg))] (m5, S5) (some (.ref r0)) (mf, Sf)
    obtain ⟨m6, S6, g6, h⟩ := b5_some h
    obtain ⟨hSh6, h⟩ := ckc_some h
    refine rcV 100 ((61 + 3 * ((((x1 * 4)) + x2)).toNatClampNeg)) [.ref r5] rfl rfl rfl (hSh5.kS (sK_i c1) _) (Nat.le_of_ble_eq_true rfl) rfl (e_Sight_endsBy N (by omega) hSh5 (sK_i c1) c5 g6) ?_
    show RN xs L true (Ev xs L true d) 98 54 [(3, .ref ((61 + 3 * ((((x1 * 4)) + x2)).toNatClampNeg))), (0, .ref 17), (1, .int x1), (2, .int x2)] [] (m6, S6) (some (.ref r0)) (mf, Sf)
    refine rsn 1 (t := (55, [(3, .ref ((61 + 3 * ((((x1 * 4)) + x2)).toNatClampNeg))), (0, .ref 17), (1, .int x1), (2, .int x2)], [.ref ((61 + 3 * ((((x1 * 4)) + x2)).toNatClampNeg))])) rfl ?_
    obtain ⟨h, h2⟩ := Prod.mk.inj (Option.some.inj h)
    obtain ⟨h2, h3⟩ := Prod.mk.inj h2
    subst h
    subst h2
    subst h3
    exact rret rfl ⟨rfl, rfl, _, _, rfl, rfl, rfl⟩
noncomputable def f_Book_ways (N : Nat) (S : St) (x1 : Int32) (x2 : Int32) (x3 : Int32) (m : Mm) : Option (Nat × Mm × St) := (jn (fun (m1 : Mm) (S2 : St) => b4 (f_Book_ends N S2 x2 ((mI m1 10 3)) m1) fun r3 m3 S3 => ckc (ShC S3) (ck (r3 ∈ eKl) (b5 (f_Ways_goBy N S3 x1 x3 r3 m3) fun m4 S4 => ckc (ShC S4) (some (97, m4, S4))))) (fun j12 => if x1 = 4 then b4 (f_Book_sight N S 0 0 m) fun r6 m6 S6 => ckc (ShC S6) (ck (r6 ∈ sKl) (j12 m6 S6)) else j12 m S))
set_option maxRecDepth 20000 in
set_option maxHeartbeats 4000000 in
theorem e_Book_ways {xs : Nat → Int32} {L : Nat} (N : Nat) {d : Nat} (hd : 5 ≤ d) {S : St} (hSh : ShC S) {x1 : Int32} {x2 : Int32} {x3 : Int32} {m : Mm} {r0 : Nat} {mf : Mm} {Sf : St} (h : f_Book_ways N S x1 x2 x3 m = some (r0, mf, Sf)) : Ev xs L true d 128 [.ref 17, .int x1, .int x2, .int x3] (m, S) (some (.ref r0)) (mf, Sf) := by
  obtain ⟨d, rfl⟩ : ∃ e, d = e + 1 := ⟨d - 1, by omega⟩
  refine ev_of (by decide) (Nat.le_of_ble_eq_true rfl) ?_
  rw [f_Book_ways] at h
  show RN xs L true (Ev xs L true d) 128 0 [(0, .ref 17), (1, .int x1), (2, .int x2), (3, .int x3)] [] (m, S) (some (.ref r0)) (mf, Sf)
  refine rsn 2 (t := (2, [(0, .ref 17), (1, .int x1), (2, .int x2), (3, .int x3)], [.int 4, .int x1])) rfl ?_
  have jp12 : ∀ (m1 : Mm) (S2 : St) (hSh2 : ShC S2), (b4 (f_Book_ends N S2 x2 ((mI m1 10 3)) m1) fun r3 m3 S3 => ckc (ShC S3) (ck (r3 ∈ eKl) (b5 (f_Ways_goBy N S3 x1 x3 r3 m3) fun m4 S4 => ckc (ShC S4) (some (97, m4, S4))))) = some (r0, mf, Sf) → RN xs L true (Ev xs L true d) 128 12 [(0, .ref 17), (1, .int x1), (2, .int x2), (3, .int x3)] [] (m1, S2) (some (.ref r0)) (mf, Sf) := by
    intro m1 S2 hSh2 h
    try dsimp only at h
    refine rsn 1 (t := (13, [(0, .ref 17), (1, .int x1), (2, .int x2), (3, .int x3)], [.ref 17])) rfl ?_
    refine rgR rfl rfl rfl (hSh2.1.k 17 rfl _) (hSh2.1.r 97 rfl _) ?_
    refine rsn 5 (t := (21, [(0, .ref 17), (1, .int x1), (2, .int x2), (3, .int x3)], [.ref 17, .int x2, .ref 17, .int x3, .int x1, .ref 97])) rfl ?_
    refine rgR rfl rfl rfl (hSh2.1.k 17 rfl _) (hSh2.1.r 95 rfl _) ?_
    refine pgI rfl rfl rfl (hSh2.1.k 10 rfl _) ?_
    show RN xs L true (Ev xs L true d) 128 27 [(0, .ref 17), (1, .int x1), (2, .int x2), (3, .int x3)] [.int ((mI m1 10 3)), .int x2, .ref 17, .int x3, .int x1, .ref 97] (m1, S2) (some (.ref r0)) (mf, Sf)
    obtain ⟨r3, m3, S3, g3, h⟩ := b4_some h
    obtain ⟨hSh3, h⟩ := ckc_some h
    refine rcV 76 17 [.int x2, .int ((mI m1 10 3))] rfl rfl rfl (hSh2.1.k 17 rfl _) (Nat.le_of_ble_eq_true rfl) rfl (e_Book_ends N (by omega) hSh2 g3) ?_
    obtain ⟨c3, h⟩ := ck_some h
    show RN xs L true (Ev xs L true d) 128 30 [(0, .ref 17), (1, .int x1), (2, .int x2), (3, .int x3)] [.ref r3, .int x3, .int x1, .ref 97] (m3, S3) (some (.ref r0)) (mf, Sf)
    obtain ⟨m4, S4, g4, h⟩ := b5_some h
    obtain ⟨hSh4, h⟩ := ckc_some h
    refine rcV 129 97 [.int x1, .int x3, .ref r3] rfl rfl rfl (hSh3.1.k 97 rfl _) (Nat.le_of_ble_eq_true rfl) rfl (e_Ways_goBy N (by omega) hSh3 c3 g4) ?_
    show RN xs L true (Ev xs L true d) 128 33 [(0, .ref 17), (1, .int x1), (2, .int x2), (3, .int x3)] [] (m4, S4) (some (.ref r0)) (mf, Sf)
    refine rsn 1 (t := (34, [(0, .ref 17), (1, .int x1), (2, .int x2), (3, .int x3)], [.ref 17])) rfl ?_
    refine rgR rfl rfl rfl (hSh4.1.k 17 rfl _) (hSh4.1.r 97 rfl _) ?_
    obtain ⟨h, h2⟩ := Prod.mk.inj (Option.some.inj h)
    obtain ⟨h2, h3⟩ := Prod.mk.inj h2
    subst h
    subst h2
    subst h3
    exact rret rfl ⟨rfl, rfl, _, _, rfl, rfl, rfl⟩
  rw [jn] at h
  try dsimp only at h
  by_cases c5 : x1 = 4
  · rw [if_pos c5] at h
    refine rjf (a := (12, [(0, .ref 17), (1, .int x1), (2, .int x2), (3, .int x3)], [])) (b := (5, [(0, .ref 17), (1, .int x1), (2, .int x2), (3, .int x3)], [])) rfl rfl (fun q => q c5) ?_
    refine rsn 3 (t := (8, [(0, .ref 17), (1, .int x1), (2, .int x2), (3, .int x3)], [.int 0, .int 0, .ref 17])) rfl ?_
    obtain ⟨r6, m6, S6, g6, h⟩ := b4_some h
    obtain ⟨hSh6, h⟩ := ckc_some h
    refine rcV 98 17 [.int 0, .int 0] rfl rfl rfl (hSh.1.k 17 rfl _) (Nat.le_of_ble_eq_true rfl) rfl (e_Book_sight N (by omega) hSh g6) ?_
    obtain ⟨c6, h⟩ := ck_some h
    show RN xs L true (Ev xs L true d) 128 11 [(0, .ref 17), (1, .int x1), (2, .int x2), (3, .int x3)] [.ref r6] (m6, S6) (some (.ref r0)) (mf, Sf)
    refine rsn 1 (t := (12, [(0, .ref 17), (1, .int x1), (2, .int x2), (3, .int x3)], [])) rfl ?_
    exact rsub [(0, .ref 17), (1, .int x1), (2, .int x2), (3, .int x3)] ⟨rfl, ⟨rfl, ⟨rfl, ⟨rfl, trivial⟩⟩⟩⟩ ⟨rfl, ⟨rfl, ⟨rfl, ⟨rfl, trivial⟩⟩⟩⟩ (jp12 m6 S6 hSh6 h)
  · rw [if_neg c5] at h
    refine rjt (a := (12, [(0, .ref 17), (1, .int x1), (2, .int x2), (3, .int x3)], [])) (b := (5, [(0, .ref 17), (1, .int x1), (2, .int x2), (3, .int x3)], [])) rfl rfl c5 ?_
    exact rsub [(0, .ref 17), (1, .int x1), (2, .int x2), (3, .int x3)] ⟨rfl, ⟨rfl, ⟨rfl, ⟨rfl, trivial⟩⟩⟩⟩ ⟨rfl, ⟨rfl, ⟨rfl, ⟨rfl, trivial⟩⟩⟩⟩ (jp12 m S hSh h)
noncomputable def f_Rows_leastGreatest (N : Nat) (S : St) (x1 : Int64) (x3 : Nat) (x4 : Int64) (m : Mm) : Option (Int64 × Mm × St) := b1 (f_Ranks_allPlaces N S m) fun r1 => b1 (S.1 30 2) fun t2 => (jn (fun (m3 : Mm) (S4 : St) => b3 (f_Rows_walkOn N S4 x1 ((x1 &&& ((-68719476736)))) x3 (vJ (vJ (vI m3 30 3 ((((mI m3 30 3)) + 1))) 30 4 9223372036854775807) 30 5 x4)) fun m5 => some ((mJ m5 30 4), m5, S4)) (fun j42 => if r1 ≤ ((Int32.ofNat ((S.2.2.1 t2)))) then j42 m S else b1 (S.1 30 2) fun t7 => ck (¬ ((if r1 < ((if 108528 < ((2 * ((Int32.ofNat ((S.2.2.1 t7)))))) then 108528 else ((2 * ((Int32.ofNat ((S.2.2.1 t7)))))))) then ((if 108528 < ((2 * ((Int32.ofNat ((S.2.2.1 t7)))))) then 108528 else ((2 * ((Int32.ofNat ((S.2.2.1 t7)))))))) else r1)) < 0 ∧ ((if r1 < ((if 108528 < ((2 * ((Int32.ofNat ((S.2.2.1 t7)))))) then 108528 else ((2 * ((Int32.ofNat ((S.2.2.1 t7)))))))) then ((if 108528 < ((2 * ((Int32.ofNat ((S.2.2.1 t7)))))) then 108528 else ((2 * ((Int32.ofNat ((S.2.2.1 t7)))))))) else r1)).toNatClampNeg * abt 12 ≤ 536870912) (jn S.2.2.2.2.1 (fun q8 => jn (aM m S) (fun m8 => jn (aS S 12 ((if r1 < ((if 108528 < ((2 * ((Int32.ofNat ((S.2.2.1 t7)))))) then 108528 else ((2 * ((Int32.ofNat ((S.2.2.1 t7)))))))) then ((if 108528 < ((2 * ((Int32.ofNat ((S.2.2.1 t7)))))) then 108528 else ((2 * ((Int32.ofNat ((S.2.2.1 t7)))))))) else r1)).toNatClampNeg) (fun S8 => ckc (ShC S8) (jn (sR S8 30 2 q8) (fun S9 => ckc (ShC S9) (j42 m8 S9)))))))))
set_option maxRecDepth 20000 in
set_option maxHeartbeats 4000000 in
theorem e_Rows_leastGreatest {xs : Nat → Int32} {L : Nat} (N : Nat) {d : Nat} (hd : 61 ≤ d) {S : St} (hSh : ShC S) {x1 : Int64} {x3 : Nat} {x4 : Int64} (hx3 : x3 ∈ eKl) {m : Mm} {r0 : Int64} {mf : Mm} {Sf : St} (h : f_Rows_leastGreatest N S x1 x3 x4 m = some (r0, mf, Sf)) : Ev xs L true d 123 [.ref 30, .long x1, .ref x3, .long x4] (m, S) (some (.long r0)) (mf, Sf) := by
  obtain ⟨d, rfl⟩ : ∃ e, d = e + 1 := ⟨d - 1, by omega⟩
  refine ev_of (by decide) (Nat.le_of_ble_eq_true rfl) ?_
  rw [f_Rows_leastGreatest] at h
  show RN xs L true (Ev xs L true d) 123 0 [(0, .ref 30), (1, .long x1), (3, .ref x3), (4, .long x4)] [] (m, S) (some (.long r0)) (mf, Sf)
  refine rsn 1 (t := (1, [(0, .ref 30), (1, .long x1), (3, .ref x3), (4, .long x4)], [.ref 30])) rfl ?_
  refine rgR rfl rfl rfl (hSh.1.k 30 rfl _) (hSh.1.r 101 rfl _) ?_
  obtain ⟨r1, g1, h⟩ := b1_some h
  refine rcV 124 18 [] rfl rfl rfl (hSh.1.k 18 rfl _) (Nat.le_of_ble_eq_true rfl) rfl (e_Ranks_allPlaces N (by omega) hSh g1) ?_
  show RN xs L true (Ev xs L true d) 123 7 [(0, .ref 30), (1, .long x1), (3, .ref x3), (4, .long x4)] [.int r1] (m, S) (some (.long r0)) (mf, Sf)
  refine rsn 3 (t := (12, [(6, .int r1), (0, .ref 30), (1, .long x1), (3, .ref x3), (4, .long x4)], [.ref 30, .int r1])) rfl ?_
  obtain ⟨t2, g2, h⟩ := b1_some h
  refine rgR rfl rfl rfl (hSh.1.k 30 rfl _) g2 ?_
  refine rxL rfl (hSh.kQ g2 _) (by decide) rfl ?_
  show RN xs L true (Ev xs L true d) 123 16 [(6, .int r1), (0, .ref 30), (1, .long x1), (3, .ref x3), (4, .long x4)] [.int ((Int32.ofNat ((S.2.2.1 t2)))), .int r1] (m, S) (some (.long r0)) (mf, Sf)
  have jp42 : ∀ (m3 : Mm) (S4 : St) (hSh4 : ShC S4), (b3 (f_Rows_walkOn N S4 x1 ((x1 &&& ((-68719476736)))) x3 (vJ (vJ (vI m3 30 3 ((((mI m3 30 3)) + 1))) 30 4 9223372036854775807) 30 5 x4)) fun m5 => some ((mJ m5 30 4), m5, S4)) = some (r0, mf, Sf) → RN xs L true (Ev xs L true d) 123 42 [(0, .ref 30), (1, .long x1), (3, .ref x3), (4, .long x4)] [] (m3, S4) (some (.long r0)) (mf, Sf) := by
    intro m3 S4 hSh4 h
    try dsimp only at h
    refine rsn 2 (t := (44, [(0, .ref 30), (1, .long x1), (3, .ref x3), (4, .long x4)], [.ref 30, .ref 30])) rfl ?_
    refine pgI rfl rfl rfl (hSh4.1.k 30 rfl _) ?_
    show RN xs L true (Ev xs L true d) 123 47 [(0, .ref 30), (1, .long x1), (3, .ref x3), (4, .long x4)] [.int ((mI m3 30 3)), .ref 30] (m3, S4) (some (.long r0)) (mf, Sf)
    refine rsn 2 (t := (49, [(0, .ref 30), (1, .long x1), (3, .ref x3), (4, .long x4)], [.int ((((mI m3 30 3)) + 1)), .ref 30])) rfl ?_
    refine ppI rfl rfl rfl rfl (hSh4.1.k 30 rfl _) ?_
    refine rsn 2 (t := (56, [(0, .ref 30), (1, .long x1), (3, .ref x3), (4, .long x4)], [.long 9223372036854775807, .ref 30])) rfl ?_
    refine ppJ rfl rfl rfl rfl (hSh4.1.k 30 rfl _) ?_
    refine rsn 2 (t := (62, [(0, .ref 30), (1, .long x1), (3, .ref x3), (4, .long x4)], [.long x4, .ref 30])) rfl ?_
    refine ppJ rfl rfl rfl rfl (hSh4.1.k 30 rfl _) ?_
    refine rsn 6 (t := (73, [(0, .ref 30), (1, .long x1), (3, .ref x3), (4, .long x4)], [.ref x3, .long ((x1 &&& ((-68719476736)))), .long x1, .ref 30])) rfl ?_
    obtain ⟨m5, g5, h⟩ := b3_some h
    refine rcV 125 30 [.long x1, .long ((x1 &&& ((-68719476736)))), .ref x3] rfl rfl rfl (hSh4.1.k 30 rfl _) (Nat.le_of_ble_eq_true rfl) rfl (e_Rows_walkOn N (by omega) hSh4 hx3 g5) ?_
    show RN xs L true (Ev xs L true d) 123 76 [(0, .ref 30), (1, .long x1), (3, .ref x3), (4, .long x4)] [] (m5, S4) (some (.long r0)) (mf, Sf)
    refine rsn 1 (t := (77, [(0, .ref 30), (1, .long x1), (3, .ref x3), (4, .long x4)], [.ref 30])) rfl ?_
    refine pgJ rfl rfl rfl (hSh4.1.k 30 rfl _) ?_
    show RN xs L true (Ev xs L true d) 123 80 [(0, .ref 30), (1, .long x1), (3, .ref x3), (4, .long x4)] [.long ((mJ m5 30 4))] (m5, S4) (some (.long r0)) (mf, Sf)
    obtain ⟨h, h2⟩ := Prod.mk.inj (Option.some.inj h)
    obtain ⟨h2, h3⟩ := Prod.mk.inj h2
    subst h
    subst h2
    subst h3
    exact rret rfl ⟨rfl, rfl, _, rfl, rfl, rfl⟩
  rw [jn] at h
  try dsimp only at h
  by_cases c6 : r1 ≤ ((Int32.ofNat ((S.2.2.1 t2))))
  · rw [if_pos c6] at h
    refine rjt (a := (42, [(6, .int r1), (0, .ref 30), (1, .long x1), (3, .ref x3), (4, .long x4)], [])) (b := (19, [(6, .int r1), (0, .ref 30), (1, .long x1), (3, .ref x3), (4, .long x4)], [])) rfl rfl c6 ?_
    exact rsub [(0, .ref 30), (1, .long x1), (3, .ref x3), (4, .long x4)] ⟨rfl, ⟨rfl, ⟨rfl, ⟨rfl, trivial⟩⟩⟩⟩ ⟨rfl, ⟨rfl, ⟨rfl, ⟨rfl, trivial⟩⟩⟩⟩ (jp42 m S hSh h)
  · rw [if_neg c6] at h
    refine rjf (a := (42, [(6, .int r1), (0, .ref 30), (1, .long x1), (3, .ref x3), (4, .long x4)], [])) (b := (19, [(6, .int r1), (0, .ref 30), (1, .long x1), (3, .ref x3), (4, .long x4)], [])) rfl rfl c6 ?_
    refine rsn 4 (t := (24, [(6, .int r1), (0, .ref 30), (1, .long x1), (3, .ref x3), (4, .long x4)], [.ref 30, .int 2, .int r1, .ref 30])) rfl ?_
    obtain ⟨t7, g7, h⟩ := b1_some h
    refine rgR rfl rfl rfl (hSh.1.k 30 rfl _) g7 ?_
    refine rxL rfl (hSh.kQ g7 _) (by decide) rfl ?_
    show RN xs L true (Ev xs L true d) 123 28 [(6, .int r1), (0, .ref 30), (1, .long x1), (3, .ref x3), (4, .long x4)] [.int ((Int32.ofNat ((S.2.2.1 t7)))), .int 2, .int r1, .ref 30] (m, S) (some (.long r0)) (mf, Sf)
    refine rsn 2 (t := (31, [(6, .int r1), (0, .ref 30), (1, .long x1), (3, .ref x3), (4, .long x4)], [.int 108528, .int ((2 * ((Int32.ofNat ((S.2.2.1 t7)))))), .int r1, .ref 30])) rfl ?_
    refine rm (st1 := [.int ((if 108528 < ((2 * ((Int32.ofNat ((S.2.2.1 t7)))))) then 108528 else ((2 * ((Int32.ofNat ((S.2.2.1 t7)))))))), .int r1, .ref 30]) rfl ⟨rfl, rfl, 2, [.int r1, .ref 30], rfl, Nat.le_of_ble_eq_true rfl, Or.inr (Or.inr (Or.inl ⟨rfl, _, _, rfl, rfl⟩))⟩ ?_
    refine rm (st1 := [.int ((if r1 < ((if 108528 < ((2 * ((Int32.ofNat ((S.2.2.1 t7)))))) then 108528 else ((2 * ((Int32.ofNat ((S.2.2.1 t7)))))))) then ((if 108528 < ((2 * ((Int32.ofNat ((S.2.2.1 t7)))))) then 108528 else ((2 * ((Int32.ofNat ((S.2.2.1 t7)))))))) else r1)), .ref 30]) rfl ⟨rfl, rfl, 0, [.ref 30], rfl, Nat.le_of_ble_eq_true rfl, Or.inl ⟨rfl, _, _, rfl, rfl⟩⟩ ?_
    obtain ⟨c8, h⟩ := ck_some h
    refine pnA rfl rfl c8 ?_
    rw [jn] at h
    try dsimp only at h
    rw [jn] at h
    try dsimp only at h
    rw [jn] at h
    try dsimp only at h
    generalize hq8 : S.2.2.2.2.1 = q8 at h ⊢
    generalize aM m S = m8 at h ⊢
    generalize aS S 12 ((if r1 < ((if 108528 < ((2 * ((Int32.ofNat ((S.2.2.1 t7)))))) then 108528 else ((2 * ((Int32.ofNat ((S.2.2.1 t7)))))))) then ((if 108528 < ((2 * ((Int32.ofNat ((S.2.2.1 t7)))))) then 108528 else ((2 * ((Int32.ofNat ((S.2.2.1 t7)))))))) else r1)).toNatClampNeg = S8 at h ⊢
    obtain ⟨hSh8, h⟩ := ckc_some h
    refine ppR rfl rfl rfl rfl (hSh8.1.k 30 rfl _) ?_
    rw [jn] at h
    try dsimp only at h
    generalize sR S8 30 2 q8 = S9 at h ⊢
    obtain ⟨hSh9, h⟩ := ckc_some h
    exact rsub [(0, .ref 30), (1, .long x1), (3, .ref x3), (4, .long x4)] ⟨rfl, ⟨rfl, ⟨rfl, ⟨rfl, trivial⟩⟩⟩⟩ ⟨rfl, ⟨rfl, ⟨rfl, ⟨rfl, trivial⟩⟩⟩⟩ (jp42 m8 S9 hSh9 h)
noncomputable def f_SC_worthNow (N : Nat) (S : St) (x1 : Int32) (x2 : Int32) (m : Mm) : Option (Int64 × Mm × St) := b4 (f_Book_sight N S x1 x2 m) fun r1 m1 S1 => ckc (ShC S1) (ck (r1 ∈ sKl) ((if ((mI m1 0 8)) = ((-1)) then b2 (f_Sight_worth N S1 r1 ((mJ m1 0 7)) m1) fun r4 m4 => some (r4, m4, S1) else b2 (f_Sight_given N S1 r1 ((mJ m1 0 7)) ((mI m1 0 8)) m1) fun r3 m3 => some (r3, m3, S1))))
set_option maxRecDepth 20000 in
set_option maxHeartbeats 4000000 in
theorem e_SC_worthNow {xs : Nat → Int32} {L : Nat} (N : Nat) {d : Nat} (hd : 78 ≤ d) {S : St} (hSh : ShC S) {x1 : Int32} {x2 : Int32} {m : Mm} {r0 : Int64} {mf : Mm} {Sf : St} (h : f_SC_worthNow N S x1 x2 m = some (r0, mf, Sf)) : Ev xs L true d 97 [.ref 0, .int x1, .int x2] (m, S) (some (.long r0)) (mf, Sf) := by
  obtain ⟨d, rfl⟩ : ∃ e, d = e + 1 := ⟨d - 1, by omega⟩
  refine ev_of (by decide) (Nat.le_of_ble_eq_true rfl) ?_
  rw [f_SC_worthNow] at h
  show RN xs L true (Ev xs L true d) 97 0 [(0, .ref 0), (1, .int x1), (2, .int x2)] [] (m, S) (some (.long r0)) (mf, Sf)
  refine rsn 1 (t := (1, [(0, .ref 0), (1, .int x1), (2, .int x2)], [.ref 0])) rfl ?_
  refine rgR rfl rfl rfl (hSh.1.k 0 rfl _) (hSh.1.r 89 rfl _) ?_
  refine rsn 2 (t := (6, [(0, .ref 0), (1, .int x1), (2, .int x2)], [.int x2, .int x1, .ref 17])) rfl ?_
  obtain ⟨r1, m1, S1, g1, h⟩ := b4_some h
  obtain ⟨hSh1, h⟩ := ckc_some h
  refine rcV 98 17 [.int x1, .int x2] rfl rfl rfl (hSh.1.k 17 rfl _) (Nat.le_of_ble_eq_true rfl) rfl (e_Book_sight N (by omega) hSh g1) ?_
  obtain ⟨c1, h⟩ := ck_some h
  show RN xs L true (Ev xs L true d) 97 9 [(0, .ref 0), (1, .int x1), (2, .int x2)] [.ref r1] (m1, S1) (some (.long r0)) (mf, Sf)
  refine rsn 2 (t := (11, [(3, .ref r1), (0, .ref 0), (1, .int x1), (2, .int x2)], [.ref 0])) rfl ?_
  refine pgI rfl rfl rfl (hSh1.1.k 0 rfl _) ?_
  show RN xs L true (Ev xs L true d) 97 14 [(3, .ref r1), (0, .ref 0), (1, .int x1), (2, .int x2)] [.int ((mI m1 0 8))] (m1, S1) (some (.long r0)) (mf, Sf)
  refine rsn 1 (t := (15, [(3, .ref r1), (0, .ref 0), (1, .int x1), (2, .int x2)], [.int ((-1)), .int ((mI m1 0 8))])) rfl ?_
  by_cases c2 : ((mI m1 0 8)) = ((-1))
  · rw [if_pos c2] at h
    refine rjf (a := (29, [(3, .ref r1), (0, .ref 0), (1, .int x1), (2, .int x2)], [])) (b := (18, [(3, .ref r1), (0, .ref 0), (1, .int x1), (2, .int x2)], [])) rfl rfl (fun q => q c2) ?_
    refine rsn 2 (t := (20, [(3, .ref r1), (0, .ref 0), (1, .int x1), (2, .int x2)], [.ref 0, .ref r1])) rfl ?_
    refine pgJ rfl rfl rfl (hSh1.1.k 0 rfl _) ?_
    show RN xs L true (Ev xs L true d) 97 23 [(3, .ref r1), (0, .ref 0), (1, .int x1), (2, .int x2)] [.long ((mJ m1 0 7)), .ref r1] (m1, S1) (some (.long r0)) (mf, Sf)
    obtain ⟨r4, m4, g4, h⟩ := b2_some h
    refine rcV 101 r1 [.long ((mJ m1 0 7))] rfl rfl rfl (hSh1.kS c1 _) (Nat.le_of_ble_eq_true rfl) rfl (e_Sight_worth N (by omega) hSh1 c1 g4) ?_
    show RN xs L true (Ev xs L true d) 97 26 [(3, .ref r1), (0, .ref 0), (1, .int x1), (2, .int x2)] [.long r4] (m4, S1) (some (.long r0)) (mf, Sf)
    refine rsn 1 (t := (41, [(3, .ref r1), (0, .ref 0), (1, .int x1), (2, .int x2)], [.long r4])) rfl ?_
    obtain ⟨h, h2⟩ := Prod.mk.inj (Option.some.inj h)
    obtain ⟨h2, h3⟩ := Prod.mk.inj h2
    subst h
    subst h2
    subst h3
    exact rret rfl ⟨rfl, rfl, _, rfl, rfl, rfl⟩
  · rw [if_neg c2] at h
    refine rjt (a := (29, [(3, .ref r1), (0, .ref 0), (1, .int x1), (2, .int x2)], [])) (b := (18, [(3, .ref r1), (0, .ref 0), (1, .int x1), (2, .int x2)], [])) rfl rfl c2 ?_
    refine rsn 2 (t := (31, [(3, .ref r1), (0, .ref 0), (1, .int x1), (2, .int x2)], [.ref 0, .ref r1])) rfl ?_
    refine pgJ rfl rfl rfl (hSh1.1.k 0 rfl _) ?_
    show RN xs L true (Ev xs L true d) 97 34 [(3, .ref r1), (0, .ref 0), (1, .int x1), (2, .int x2)] [.long ((mJ m1 0 7)), .ref r1] (m1, S1) (some (.long r0)) (mf, Sf)
    refine rsn 1 (t := (35, [(3, .ref r1), (0, .ref 0), (1, .int x1), (2, .int x2)], [.ref 0, .long ((mJ m1 0 7)), .ref r1])) rfl ?_
    refine pgI rfl rfl rfl (hSh1.1.k 0 rfl _) ?_
    show RN xs L true (Ev xs L true d) 97 38 [(3, .ref r1), (0, .ref 0), (1, .int x1), (2, .int x2)] [.int ((mI m1 0 8)), .long ((mJ m1 0 7)), .ref r1] (m1, S1) (some (.long r0)) (mf, Sf)
    obtain ⟨r3, m3, g3, h⟩ := b2_some h
    refine rcV 105 r1 [.long ((mJ m1 0 7)), .int ((mI m1 0 8))] rfl rfl rfl (hSh1.kS c1 _) (Nat.le_of_ble_eq_true rfl) rfl (e_Sight_given N (by omega) hSh1 c1 g3) ?_
    show RN xs L true (Ev xs L true d) 97 41 [(3, .ref r1), (0, .ref 0), (1, .int x1), (2, .int x2)] [.long r3] (m3, S1) (some (.long r0)) (mf, Sf)
    obtain ⟨h, h2⟩ := Prod.mk.inj (Option.some.inj h)
    obtain ⟨h2, h3⟩ := Prod.mk.inj h2
    subst h
    subst h2
    subst h3
    exact rret rfl ⟨rfl, rfl, _, rfl, rfl, rfl⟩
noncomputable def f_SC_reached (N : Nat) (S : St) (x1 : Int32) (m : Mm) : Option (Int32 × Mm × St) := b1 (f_SC_canLookAhead N S x1 m) fun r1 => (if r1 = 0 then some ((-2147483648), m, S) else b1 (f_SC_daysToCome N S m) fun r3 => (if r3 ≤ 0 then b4 (f_Book_ends N S x1 ((mI m 10 3)) m) fun r5 m5 S5 => ckc (ShC S5) (ck (r5 ∈ eKl) (b2 (f_Ends_value N S5 r5 ((mJ m5 0 7)) m5) fun r6 m6 => some (r6.toInt32, m6, S5))) else some ((-2147483648), m, S)))
set_option maxRecDepth 20000 in
set_option maxHeartbeats 4000000 in
theorem e_SC_reached {xs : Nat → Int32} {L : Nat} (N : Nat) {d : Nat} (hd : 41 ≤ d) {S : St} (hSh : ShC S) {x1 : Int32} {m : Mm} {r0 : Int32} {mf : Mm} {Sf : St} (h : f_SC_reached N S x1 m = some (r0, mf, Sf)) : Ev xs L true d 72 [.ref 0, .int x1] (m, S) (some (.int r0)) (mf, Sf) := by
  obtain ⟨d, rfl⟩ : ∃ e, d = e + 1 := ⟨d - 1, by omega⟩
  refine ev_of (by decide) (Nat.le_of_ble_eq_true rfl) ?_
  rw [f_SC_reached] at h
  show RN xs L true (Ev xs L true d) 72 0 [(0, .ref 0), (1, .int x1)] [] (m, S) (some (.int r0)) (mf, Sf)
  refine rsn 2 (t := (2, [(0, .ref 0), (1, .int x1)], [.int x1, .ref 0])) rfl ?_
  obtain ⟨r1, g1, h⟩ := b1_some h
  refine rcV 73 0 [.int x1] rfl rfl rfl (hSh.1.k 0 rfl _) (Nat.le_of_ble_eq_true rfl) rfl (e_SC_canLookAhead N (by omega) hSh g1) ?_
  show RN xs L true (Ev xs L true d) 72 5 [(0, .ref 0), (1, .int x1)] [.int r1] (m, S) (some (.int r0)) (mf, Sf)
  by_cases c2 : r1 = 0
  · rw [if_pos c2] at h
    refine rjt (a := (15, [(0, .ref 0), (1, .int x1)], [])) (b := (8, [(0, .ref 0), (1, .int x1)], [])) rfl rfl c2 ?_
    refine rsn 1 (t := (17, [(0, .ref 0), (1, .int x1)], [.int ((-2147483648))])) rfl ?_
    obtain ⟨h, h2⟩ := Prod.mk.inj (Option.some.inj h)
    obtain ⟨h2, h3⟩ := Prod.mk.inj h2
    subst h
    subst h2
    subst h3
    exact rret rfl ⟨rfl, rfl, _, _, rfl, rfl, rfl, rfl⟩
  · rw [if_neg c2] at h
    refine rjf (a := (15, [(0, .ref 0), (1, .int x1)], [])) (b := (8, [(0, .ref 0), (1, .int x1)], [])) rfl rfl c2 ?_
    refine rsn 1 (t := (9, [(0, .ref 0), (1, .int x1)], [.ref 0])) rfl ?_
    obtain ⟨r3, g3, h⟩ := b1_some h
    refine rcV 75 0 [] rfl rfl rfl (hSh.1.k 0 rfl _) (Nat.le_of_ble_eq_true rfl) rfl (e_SC_daysToCome N (by omega) hSh g3) ?_
    show RN xs L true (Ev xs L true d) 72 12 [(0, .ref 0), (1, .int x1)] [.int r3] (m, S) (some (.int r0)) (mf, Sf)
    by_cases c4 : r3 ≤ 0
    · rw [if_pos c4] at h
      refine rjt (a := (18, [(0, .ref 0), (1, .int x1)], [])) (b := (15, [(0, .ref 0), (1, .int x1)], [])) rfl rfl c4 ?_
      refine rsn 1 (t := (19, [(0, .ref 0), (1, .int x1)], [.ref 0])) rfl ?_
      refine rgR rfl rfl rfl (hSh.1.k 0 rfl _) (hSh.1.r 89 rfl _) ?_
      refine rsn 2 (t := (24, [(0, .ref 0), (1, .int x1)], [.ref 0, .int x1, .ref 17])) rfl ?_
      refine rgR rfl rfl rfl (hSh.1.k 0 rfl _) (hSh.1.r 88 rfl _) ?_
      refine pgI rfl rfl rfl (hSh.1.k 10 rfl _) ?_
      show RN xs L true (Ev xs L true d) 72 30 [(0, .ref 0), (1, .int x1)] [.int ((mI m 10 3)), .int x1, .ref 17] (m, S) (some (.int r0)) (mf, Sf)
      obtain ⟨r5, m5, S5, g5, h⟩ := b4_some h
      obtain ⟨hSh5, h⟩ := ckc_some h
      refine rcV 76 17 [.int x1, .int ((mI m 10 3))] rfl rfl rfl (hSh.1.k 17 rfl _) (Nat.le_of_ble_eq_true rfl) rfl (e_Book_ends N (by omega) hSh g5) ?_
      obtain ⟨c5, h⟩ := ck_some h
      show RN xs L true (Ev xs L true d) 72 33 [(0, .ref 0), (1, .int x1)] [.ref r5] (m5, S5) (some (.int r0)) (mf, Sf)
      refine rsn 1 (t := (34, [(0, .ref 0), (1, .int x1)], [.ref 0, .ref r5])) rfl ?_
      refine pgJ rfl rfl rfl (hSh5.1.k 0 rfl _) ?_
      show RN xs L true (Ev xs L true d) 72 37 [(0, .ref 0), (1, .int x1)] [.long ((mJ m5 0 7)), .ref r5] (m5, S5) (some (.int r0)) (mf, Sf)
      obtain ⟨r6, m6, g6, h⟩ := b2_some h
      refine rcV 80 r5 [.long ((mJ m5 0 7))] rfl rfl rfl (hSh5.kE c5 _) (Nat.le_of_ble_eq_true rfl) rfl (e_Ends_value N (by omega) hSh5 c5 g6) ?_
      show RN xs L true (Ev xs L true d) 72 40 [(0, .ref 0), (1, .int x1)] [.long r6] (m6, S5) (some (.int r0)) (mf, Sf)
      refine rsn 1 (t := (41, [(0, .ref 0), (1, .int x1)], [.int r6.toInt32])) rfl ?_
      obtain ⟨h, h2⟩ := Prod.mk.inj (Option.some.inj h)
      obtain ⟨h2, h3⟩ := Prod.mk.inj h2
      subst h
      subst h2
      subst h3
      exact rret rfl ⟨rfl, rfl, _, _, rfl, rfl, rfl, rfl⟩
    · rw [if_neg c4] at h
      refine rjf (a := (18, [(0, .ref 0), (1, .int x1)], [])) (b := (15, [(0, .ref 0), (1, .int x1)], [])) rfl rfl c4 ?_
      refine rsn 1 (t := (17, [(0, .ref 0), (1, .int x1)], [.int ((-2147483648))])) rfl ?_
      obtain ⟨h, h2⟩ := Prod.mk.inj (Option.some.inj h)
      obtain ⟨h2, h3⟩ := Prod.mk.inj h2
      subst h
      subst h2
      subst h3
      exact rret rfl ⟨rfl, rfl, _, _, rfl, rfl, rfl, rfl⟩
noncomputable def f_SC_sure (N : Nat) (S : St) (x1 : Int32) (x2 : Int32) (m : Mm) : Option (Int32 × Mm × St) := (if ((mI m 0 6)) = 0 then some ((-2147483648), m, S) else b1 (f_SC_isGoal N x1) fun r2 => (if r2 = 0 then some ((-2147483648), m, S) else (jn (fun (s4 : Int32) => b4 (f_SC_worthNow N S x1 s4 m) fun r5 m5 S5 => ckc (ShC S5) ((if x2 = 0 then some (r5.toInt32, m5, S5) else b1 (f_SC_thousandths N S5 r5 m5) fun r7 => some (r7, m5, S5)))) (fun j28 => if x2 = 0 then j28 0 else j28 1))))
set_option maxRecDepth 20000 in
set_option maxHeartbeats 4000000 in
theorem e_SC_sure {xs : Nat → Int32} {L : Nat} (N : Nat) {d : Nat} (hd : 79 ≤ d) {S : St} (hSh : ShC S) {x1 : Int32} {x2 : Int32} {m : Mm} {r0 : Int32} {mf : Mm} {Sf : St} (h : f_SC_sure N S x1 x2 m = some (r0, mf, Sf)) : Ev xs L true d 96 [.ref 0, .int x1, .int x2] (m, S) (some (.int r0)) (mf, Sf) := by
  obtain ⟨d, rfl⟩ : ∃ e, d = e + 1 := ⟨d - 1, by omega⟩
  refine ev_of (by decide) (Nat.le_of_ble_eq_true rfl) ?_
  rw [f_SC_sure] at h
  show RN xs L true (Ev xs L true d) 96 0 [(0, .ref 0), (1, .int x1), (2, .int x2)] [] (m, S) (some (.int r0)) (mf, Sf)
  refine rsn 1 (t := (1, [(0, .ref 0), (1, .int x1), (2, .int x2)], [.ref 0])) rfl ?_
  refine pgI rfl rfl rfl (hSh.1.k 0 rfl _) ?_
  show RN xs L true (Ev xs L true d) 96 4 [(0, .ref 0), (1, .int x1), (2, .int x2)] [.int ((mI m 0 6))] (m, S) (some (.int r0)) (mf, Sf)
  by_cases c1 : ((mI m 0 6)) = 0
  · rw [if_pos c1] at h
    refine rjt (a := (14, [(0, .ref 0), (1, .int x1), (2, .int x2)], [])) (b := (7, [(0, .ref 0), (1, .int x1), (2, .int x2)], [])) rfl rfl c1 ?_
    refine rsn 1 (t := (16, [(0, .ref 0), (1, .int x1), (2, .int x2)], [.int ((-2147483648))])) rfl ?_
    obtain ⟨h, h2⟩ := Prod.mk.inj (Option.some.inj h)
    obtain ⟨h2, h3⟩ := Prod.mk.inj h2
    subst h
    subst h2
    subst h3
    exact rret rfl ⟨rfl, rfl, _, _, rfl, rfl, rfl, rfl⟩
  · rw [if_neg c1] at h
    refine rjf (a := (14, [(0, .ref 0), (1, .int x1), (2, .int x2)], [])) (b := (7, [(0, .ref 0), (1, .int x1), (2, .int x2)], [])) rfl rfl c1 ?_
    refine rsn 1 (t := (8, [(0, .ref 0), (1, .int x1), (2, .int x2)], [.int x1])) rfl ?_
    obtain ⟨r2, g2, h⟩ := b1_some h
    refine rcS 74 [.int x1] rfl rfl rfl (Nat.le_of_ble_eq_true rfl) rfl (e_SC_isGoal N (by omega) g2) ?_
    show RN xs L true (Ev xs L true d) 96 11 [(0, .ref 0), (1, .int x1), (2, .int x2)] [.int r2] (m, S) (some (.int r0)) (mf, Sf)
    by_cases c3 : r2 = 0
    · rw [if_pos c3] at h
      refine rjf (a := (17, [(0, .ref 0), (1, .int x1), (2, .int x2)], [])) (b := (14, [(0, .ref 0), (1, .int x1), (2, .int x2)], [])) rfl rfl (fun q => q c3) ?_
      refine rsn 1 (t := (16, [(0, .ref 0), (1, .int x1), (2, .int x2)], [.int ((-2147483648))])) rfl ?_
      obtain ⟨h, h2⟩ := Prod.mk.inj (Option.some.inj h)
      obtain ⟨h2, h3⟩ := Prod.mk.inj h2
      subst h
      subst h2
      subst h3
      exact rret rfl ⟨rfl, rfl, _, _, rfl, rfl, rfl, rfl⟩
    · rw [if_neg c3] at h
      refine rjt (a := (17, [(0, .ref 0), (1, .int x1), (2, .int x2)], [])) (b := (14, [(0, .ref 0), (1, .int x1), (2, .int x2)], [])) rfl rfl c3 ?_
      refine rsn 3 (t := (20, [(0, .ref 0), (1, .int x1), (2, .int x2)], [.int x2, .int x1, .ref 0])) rfl ?_
      have jp28 : ∀ (s4 : Int32), (b4 (f_SC_worthNow N S x1 s4 m) fun r5 m5 S5 => ckc (ShC S5) ((if x2 = 0 then some (r5.toInt32, m5, S5) else b1 (f_SC_thousandths N S5 r5 m5) fun r7 => some (r7, m5, S5)))) = some (r0, mf, Sf) → RN xs L true (Ev xs L true d) 96 28 [(0, .ref 0), (2, .int x2)] [.int s4, .int x1, .ref 0] (m, S) (some (.int r0)) (mf, Sf) := by
        intro s4 h
        try dsimp only at h
        obtain ⟨r5, m5, S5, g5, h⟩ := b4_some h
        obtain ⟨hSh5, h⟩ := ckc_some h
        refine rcV 97 0 [.int x1, .int s4] rfl rfl rfl (hSh.1.k 0 rfl _) (Nat.le_of_ble_eq_true rfl) rfl (e_SC_worthNow N (by omega) hSh g5) ?_
        show RN xs L true (Ev xs L true d) 96 31 [(0, .ref 0), (2, .int x2)] [.long r5] (m5, S5) (some (.int r0)) (mf, Sf)
        refine rsn 2 (t := (33, [(3, .long r5), (0, .ref 0), (2, .int x2)], [.int x2])) rfl ?_
        by_cases c6 : x2 = 0
        · rw [if_pos c6] at h
          refine rjt (a := (44, [(3, .long r5), (0, .ref 0), (2, .int x2)], [])) (b := (36, [(3, .long r5), (0, .ref 0), (2, .int x2)], [])) rfl rfl c6 ?_
          refine rsn 2 (t := (46, [(3, .long r5), (0, .ref 0), (2, .int x2)], [.int r5.toInt32])) rfl ?_
          obtain ⟨h, h2⟩ := Prod.mk.inj (Option.some.inj h)
          obtain ⟨h2, h3⟩ := Prod.mk.inj h2
          subst h
          subst h2
          subst h3
          exact rret rfl ⟨rfl, rfl, _, _, rfl, rfl, rfl, rfl⟩
        · rw [if_neg c6] at h
          refine rjf (a := (44, [(3, .long r5), (0, .ref 0), (2, .int x2)], [])) (b := (36, [(3, .long r5), (0, .ref 0), (2, .int x2)], [])) rfl rfl c6 ?_
          refine rsn 2 (t := (38, [(3, .long r5), (0, .ref 0), (2, .int x2)], [.long r5, .ref 0])) rfl ?_
          obtain ⟨r7, g7, h⟩ := b1_some h
          refine rcV 108 0 [.long r5] rfl rfl rfl (hSh5.1.k 0 rfl _) (Nat.le_of_ble_eq_true rfl) rfl (e_SC_thousandths N (by omega) hSh5 g7) ?_
          show RN xs L true (Ev xs L true d) 96 41 [(3, .long r5), (0, .ref 0), (2, .int x2)] [.int r7] (m5, S5) (some (.int r0)) (mf, Sf)
          refine rsn 1 (t := (46, [(3, .long r5), (0, .ref 0), (2, .int x2)], [.int r7])) rfl ?_
          obtain ⟨h, h2⟩ := Prod.mk.inj (Option.some.inj h)
          obtain ⟨h2, h3⟩ := Prod.mk.inj h2
          subst h
          subst h2
          subst h3
          exact rret rfl ⟨rfl, rfl, _, _, rfl, rfl, rfl, rfl⟩
      rw [jn] at h
      try dsimp only at h
      by_cases c8 : x2 = 0
      · rw [if_pos c8] at h
        refine rjt (a := (27, [(0, .ref 0), (1, .int x1), (2, .int x2)], [.int x1, .ref 0])) (b := (23, [(0, .ref 0), (1, .int x1), (2, .int x2)], [.int x1, .ref 0])) rfl rfl c8 ?_
        refine rsn 1 (t := (28, [(0, .ref 0), (1, .int x1), (2, .int x2)], [.int 0, .int x1, .ref 0])) rfl ?_
        exact rsub [(0, .ref 0), (2, .int x2)] ⟨rfl, ⟨rfl, trivial⟩⟩ ⟨rfl, ⟨rfl, trivial⟩⟩ (jp28 0 h)
      · rw [if_neg c8] at h
        refine rjf (a := (27, [(0, .ref 0), (1, .int x1), (2, .int x2)], [.int x1, .ref 0])) (b := (23, [(0, .ref 0), (1, .int x1), (2, .int x2)], [.int x1, .ref 0])) rfl rfl c8 ?_
        refine rsn 2 (t := (28, [(0, .ref 0), (1, .int x1), (2, .int x2)], [.int 1, .int x1, .ref 0])) rfl ?_
        exact rsub [(0, .ref 0), (2, .int x2)] ⟨rfl, ⟨rfl, trivial⟩⟩ ⟨rfl, ⟨rfl, trivial⟩⟩ (jp28 1 h)
noncomputable def f_SC_best (N : Nat) (S : St) (x1 : Int32) (x2 : Int32) (m : Mm) : Option (Int32 × Mm × St) := (if ((mI m 0 8)) = ((-1)) then some ((-1), m, S) else b1 (f_SC_isGoal N x1) fun r2 => (if r2 = 0 then some ((-1), m, S) else (if x2 = 0 then b4 (f_Book_sight N S x1 0 m) fun r5 m5 S5 => ckc (ShC S5) (ck (r5 ∈ sKl) (b2 (f_Sight_bestGift N S5 r5 ((mJ m5 0 7)) ((mI m5 0 8)) m5) fun r6 m6 => some (r6, m6, S5))) else b4 (f_Book_sight N S x1 1 m) fun r7 m7 S7 => ckc (ShC S7) (ck (r7 ∈ sKl) (b2 (f_Sight_bestGift N S7 r7 ((mJ m7 0 7)) ((mI m7 0 8)) m7) fun r8 m8 => some (r8, m8, S7))))))
set_option maxRecDepth 20000 in
set_option maxHeartbeats 4000000 in
theorem e_SC_best {xs : Nat → Int32} {L : Nat} (N : Nat) {d : Nat} (hd : 79 ≤ d) {S : St} (hSh : ShC S) {x1 : Int32} {x2 : Int32} {m : Mm} {r0 : Int32} {mf : Mm} {Sf : St} (h : f_SC_best N S x1 x2 m = some (r0, mf, Sf)) : Ev xs L true d 109 [.ref 0, .int x1, .int x2] (m, S) (some (.int r0)) (mf, Sf) := by
  obtain ⟨d, rfl⟩ : ∃ e, d = e + 1 := ⟨d - 1, by omega⟩
  refine ev_of (by decide) (Nat.le_of_ble_eq_true rfl) ?_
  rw [f_SC_best] at h
  show RN xs L true (Ev xs L true d) 109 0 [(0, .ref 0), (1, .int x1), (2, .int x2)] [] (m, S) (some (.int r0)) (mf, Sf)
  refine rsn 1 (t := (1, [(0, .ref 0), (1, .int x1), (2, .int x2)], [.ref 0])) rfl ?_
  refine pgI rfl rfl rfl (hSh.1.k 0 rfl _) ?_
  show RN xs L true (Ev xs L true d) 109 4 [(0, .ref 0), (1, .int x1), (2, .int x2)] [.int ((mI m 0 8))] (m, S) (some (.int r0)) (mf, Sf)
  refine rsn 1 (t := (5, [(0, .ref 0), (1, .int x1), (2, .int x2)], [.int ((-1)), .int ((mI m 0 8))])) rfl ?_
  by_cases c1 : ((mI m 0 8)) = ((-1))
  · rw [if_pos c1] at h
    refine rjt (a := (15, [(0, .ref 0), (1, .int x1), (2, .int x2)], [])) (b := (8, [(0, .ref 0), (1, .int x1), (2, .int x2)], [])) rfl rfl c1 ?_
    refine rsn 1 (t := (16, [(0, .ref 0), (1, .int x1), (2, .int x2)], [.int ((-1))])) rfl ?_
    obtain ⟨h, h2⟩ := Prod.mk.inj (Option.some.inj h)
    obtain ⟨h2, h3⟩ := Prod.mk.inj h2
    subst h
    subst h2
    subst h3
    exact rret rfl ⟨rfl, rfl, _, _, rfl, rfl, rfl, rfl⟩
  · rw [if_neg c1] at h
    refine rjf (a := (15, [(0, .ref 0), (1, .int x1), (2, .int x2)], [])) (b := (8, [(0, .ref 0), (1, .int x1), (2, .int x2)], [])) rfl rfl c1 ?_
    refine rsn 1 (t := (9, [(0, .ref 0), (1, .int x1), (2, .int x2)], [.int x1])) rfl ?_
    obtain ⟨r2, g2, h⟩ := b1_some h
    refine rcS 74 [.int x1] rfl rfl rfl (Nat.le_of_ble_eq_true rfl) rfl (e_SC_isGoal N (by omega) g2) ?_
    show RN xs L true (Ev xs L true d) 109 12 [(0, .ref 0), (1, .int x1), (2, .int x2)] [.int r2] (m, S) (some (.int r0)) (mf, Sf)
    by_cases c3 : r2 = 0
    · rw [if_pos c3] at h
      refine rjf (a := (17, [(0, .ref 0), (1, .int x1), (2, .int x2)], [])) (b := (15, [(0, .ref 0), (1, .int x1), (2, .int x2)], [])) rfl rfl (fun q => q c3) ?_
      refine rsn 1 (t := (16, [(0, .ref 0), (1, .int x1), (2, .int x2)], [.int ((-1))])) rfl ?_
      obtain ⟨h, h2⟩ := Prod.mk.inj (Option.some.inj h)
      obtain ⟨h2, h3⟩ := Prod.mk.inj h2
      subst h
      subst h2
      subst h3
      exact rret rfl ⟨rfl, rfl, _, _, rfl, rfl, rfl, rfl⟩
    · rw [if_neg c3] at h
      refine rjt (a := (17, [(0, .ref 0), (1, .int x1), (2, .int x2)], [])) (b := (15, [(0, .ref 0), (1, .int x1), (2, .int x2)], [])) rfl rfl c3 ?_
      refine rsn 1 (t := (18, [(0, .ref 0), (1, .int x1), (2, .int x2)], [.ref 0])) rfl ?_
      refine rgR rfl rfl rfl (hSh.1.k 0 rfl _) (hSh.1.r 89 rfl _) ?_
      refine rsn 2 (t := (23, [(0, .ref 0), (1, .int x1), (2, .int x2)], [.int x2, .int x1, .ref 17])) rfl ?_
      by_cases c4 : x2 = 0
      · rw [if_pos c4] at h
        refine rjt (a := (30, [(0, .ref 0), (1, .int x1), (2, .int x2)], [.int x1, .ref 17])) (b := (26, [(0, .ref 0), (1, .int x1), (2, .int x2)], [.int x1, .ref 17])) rfl rfl c4 ?_
        refine rsn 1 (t := (31, [(0, .ref 0), (1, .int x1), (2, .int x2)], [.int 0, .int x1, .ref 17])) rfl ?_
        obtain ⟨r5, m5, S5, g5, h⟩ := b4_some h
        obtain ⟨hSh5, h⟩ := ckc_some h
        refine rcV 98 17 [.int x1, .int 0] rfl rfl rfl (hSh.1.k 17 rfl _) (Nat.le_of_ble_eq_true rfl) rfl (e_Book_sight N (by omega) hSh g5) ?_
        obtain ⟨c5, h⟩ := ck_some h
        show RN xs L true (Ev xs L true d) 109 34 [(0, .ref 0), (1, .int x1), (2, .int x2)] [.ref r5] (m5, S5) (some (.int r0)) (mf, Sf)
        refine rsn 1 (t := (35, [(0, .ref 0), (1, .int x1), (2, .int x2)], [.ref 0, .ref r5])) rfl ?_
        refine pgJ rfl rfl rfl (hSh5.1.k 0 rfl _) ?_
        show RN xs L true (Ev xs L true d) 109 38 [(0, .ref 0), (1, .int x1), (2, .int x2)] [.long ((mJ m5 0 7)), .ref r5] (m5, S5) (some (.int r0)) (mf, Sf)
        refine rsn 1 (t := (39, [(0, .ref 0), (1, .int x1), (2, .int x2)], [.ref 0, .long ((mJ m5 0 7)), .ref r5])) rfl ?_
        refine pgI rfl rfl rfl (hSh5.1.k 0 rfl _) ?_
        show RN xs L true (Ev xs L true d) 109 42 [(0, .ref 0), (1, .int x1), (2, .int x2)] [.int ((mI m5 0 8)), .long ((mJ m5 0 7)), .ref r5] (m5, S5) (some (.int r0)) (mf, Sf)
        obtain ⟨r6, m6, g6, h⟩ := b2_some h
        refine rcV 110 r5 [.long ((mJ m5 0 7)), .int ((mI m5 0 8))] rfl rfl rfl (hSh5.kS c5 _) (Nat.le_of_ble_eq_true rfl) rfl (e_Sight_bestGift N (by omega) hSh5 c5 g6) ?_
        show RN xs L true (Ev xs L true d) 109 45 [(0, .ref 0), (1, .int x1), (2, .int x2)] [.int r6] (m6, S5) (some (.int r0)) (mf, Sf)
        obtain ⟨h, h2⟩ := Prod.mk.inj (Option.some.inj h)
        obtain ⟨h2, h3⟩ := Prod.mk.inj h2
        subst h
        subst h2
        subst h3
        exact rret rfl ⟨rfl, rfl, _, _, rfl, rfl, rfl, rfl⟩
      · rw [if_neg c4] at h
        refine rjf (a := (30, [(0, .ref 0), (1, .int x1), (2, .int x2)], [.int x1, .ref 17])) (b := (26, [(0, .ref 0), (1, .int x1), (2, .int x2)], [.int x1, .ref 17])) rfl rfl c4 ?_
        refine rsn 2 (t := (31, [(0, .ref 0), (1, .int x1), (2, .int x2)], [.int 1, .int x1, .ref 17])) rfl ?_
        obtain ⟨r7, m7, S7, g7, h⟩ := b4_some h
        obtain ⟨hSh7, h⟩ := ckc_some h
        refine rcV 98 17 [.int x1, .int 1] rfl rfl rfl (hSh.1.k 17 rfl _) (Nat.le_of_ble_eq_true rfl) rfl (e_Book_sight N (by omega) hSh g7) ?_
        obtain ⟨c7, h⟩ := ck_some h
        show RN xs L true (Ev xs L true d) 109 34 [(0, .ref 0), (1, .int x1), (2, .int x2)] [.ref r7] (m7, S7) (some (.int r0)) (mf, Sf)
        refine rsn 1 (t := (35, [(0, .ref 0), (1, .int x1), (2, .int x2)], [.ref 0, .ref r7])) rfl ?_
        refine pgJ rfl rfl rfl (hSh7.1.k 0 rfl _) ?_
        show RN xs L true (Ev xs L true d) 109 38 [(0, .ref 0), (1, .int x1), (2, .int x2)] [.long ((mJ m7 0 7)), .ref r7] (m7, S7) (some (.int r0)) (mf, Sf)
        refine rsn 1 (t := (39, [(0, .ref 0), (1, .int x1), (2, .int x2)], [.ref 0, .long ((mJ m7 0 7)), .ref r7])) rfl ?_
        refine pgI rfl rfl rfl (hSh7.1.k 0 rfl _) ?_
        show RN xs L true (Ev xs L true d) 109 42 [(0, .ref 0), (1, .int x1), (2, .int x2)] [.int ((mI m7 0 8)), .long ((mJ m7 0 7)), .ref r7] (m7, S7) (some (.int r0)) (mf, Sf)
        obtain ⟨r8, m8, g8, h⟩ := b2_some h
        refine rcV 110 r7 [.long ((mJ m7 0 7)), .int ((mI m7 0 8))] rfl rfl rfl (hSh7.kS c7 _) (Nat.le_of_ble_eq_true rfl) rfl (e_Sight_bestGift N (by omega) hSh7 c7 g8) ?_
        show RN xs L true (Ev xs L true d) 109 45 [(0, .ref 0), (1, .int x1), (2, .int x2)] [.int r8] (m8, S7) (some (.int r0)) (mf, Sf)
        obtain ⟨h, h2⟩ := Prod.mk.inj (Option.some.inj h)
        obtain ⟨h2, h3⟩ := Prod.mk.inj h2
        subst h
        subst h2
        subst h3
        exact rret rfl ⟨rfl, rfl, _, _, rfl, rfl, rfl, rfl⟩
def f_SC_proof_L44 (N : Nat) (S : St) (x2 : Int32) (r6 : Nat) (k44 : Int64 → Int32 → Int32 → Mm → Option (Int32 × Mm × St)) : Nat → Int64 → Int32 → Int32 → Mm → Option (Int32 × Mm × St)
  | 0, _, _, _, _ => none
  | n44 + 1, x4, x6, x7, m => (if x2 < x7 then k44 x4 x6 x7 m else b1 (f_State_dayOf N x4) fun r8 => b2 (f_Sight_worstAlt N S r6 x4 r8 m) fun r9 m9 => b1 (f_Will_thing N S 10 r8 r9 m9) fun r10 => b1 (f_Will_passed N S 10 x4 r8 r9 m9) fun r11 => (jn (fun (s12 : Int32) (m13 : Mm) => (jn (fun (y14 : Int64) => f_SC_proof_L44 N S x2 r6 k44 n44 y14 ((((r9 * 10)) + s12)) ((x7 + 1)) m13) (fun j133 => if r10 = ((-1)) then j133 r11 else b1 (f_State_with N r11 r10 s12) fun r16 => j133 r16))) (fun j114 => if r10 = ((-1)) then j114 9 m9 else b2 (f_Sight_bestGift N S r6 r11 r10 m9) fun r18 m18 => j114 r18 m18)))
noncomputable def f_SC_proof (N : Nat) (S : St) (x1 : Int32) (x2 : Int32) (m : Mm) : Option (Int32 × Mm × St) := b1 (f_SC_canLookAhead N S x1 m) fun r1 => (if r1 = 0 then some ((-1), m, S) else (if x2 < 0 then some ((-1), m, S) else b1 (f_SC_daysToCome N S m) fun r4 => (if x2 < r4 then b4 (f_Book_sight N S x1 0 m) fun r6 m6 S6 => ckc (ShC S6) (ck (r6 ∈ sKl) (f_SC_proof_L44 N S6 x2 r6 (fun (z19_4 : Int64) (z19_6 : Int32) (z19_7 : Int32) (m19 : Mm) => some (z19_6, m19, S6)) N ((mJ m6 0 7)) ((-1)) 0 m6)) else some ((-1), m, S))))
set_option maxRecDepth 20000 in
set_option maxHeartbeats 4000000 in
theorem e_SC_proof {xs : Nat → Int32} {L : Nat} (N : Nat) {d : Nat} (hd : 79 ≤ d) {S : St} (hSh : ShC S) {x1 : Int32} {x2 : Int32} {m : Mm} {r0 : Int32} {mf : Mm} {Sf : St} (h : f_SC_proof N S x1 x2 m = some (r0, mf, Sf)) : Ev xs L true d 111 [.ref 0, .int x1, .int x2] (m, S) (some (.int r0)) (mf, Sf) := by
  obtain ⟨d, rfl⟩ : ∃ e, d = e + 1 := ⟨d - 1, by omega⟩
  refine ev_of (by decide) (Nat.le_of_ble_eq_true rfl) ?_
  rw [f_SC_proof] at h
  show RN xs L true (Ev xs L true d) 111 0 [(0, .ref 0), (1, .int x1), (2, .int x2)] [] (m, S) (some (.int r0)) (mf, Sf)
  refine rsn 2 (t := (2, [(0, .ref 0), (1, .int x1), (2, .int x2)], [.int x1, .ref 0])) rfl ?_
  obtain ⟨r1, g1, h⟩ := b1_some h
  refine rcV 73 0 [.int x1] rfl rfl rfl (hSh.1.k 0 rfl _) (Nat.le_of_ble_eq_true rfl) rfl (e_SC_canLookAhead N (by omega) hSh g1) ?_
  show RN xs L true (Ev xs L true d) 111 5 [(0, .ref 0), (1, .int x1), (2, .int x2)] [.int r1] (m, S) (some (.int r0)) (mf, Sf)
  by_cases c2 : r1 = 0
  · rw [if_pos c2] at h
    refine rjt (a := (20, [(0, .ref 0), (1, .int x1), (2, .int x2)], [])) (b := (8, [(0, .ref 0), (1, .int x1), (2, .int x2)], [])) rfl rfl c2 ?_
    refine rsn 1 (t := (21, [(0, .ref 0), (1, .int x1), (2, .int x2)], [.int ((-1))])) rfl ?_
    obtain ⟨h, h2⟩ := Prod.mk.inj (Option.some.inj h)
    obtain ⟨h2, h3⟩ := Prod.mk.inj h2
    subst h
    subst h2
    subst h3
    exact rret rfl ⟨rfl, rfl, _, _, rfl, rfl, rfl, rfl⟩
  · rw [if_neg c2] at h
    refine rjf (a := (20, [(0, .ref 0), (1, .int x1), (2, .int x2)], [])) (b := (8, [(0, .ref 0), (1, .int x1), (2, .int x2)], [])) rfl rfl c2 ?_
    refine rsn 1 (t := (9, [(0, .ref 0), (1, .int x1), (2, .int x2)], [.int x2])) rfl ?_
    by_cases c3 : x2 < 0
    · rw [if_pos c3] at h
      refine rjt (a := (20, [(0, .ref 0), (1, .int x1), (2, .int x2)], [])) (b := (12, [(0, .ref 0), (1, .int x1), (2, .int x2)], [])) rfl rfl c3 ?_
      refine rsn 1 (t := (21, [(0, .ref 0), (1, .int x1), (2, .int x2)], [.int ((-1))])) rfl ?_
      obtain ⟨h, h2⟩ := Prod.mk.inj (Option.some.inj h)
      obtain ⟨h2, h3⟩ := Prod.mk.inj h2
      subst h
      subst h2
      subst h3
      exact rret rfl ⟨rfl, rfl, _, _, rfl, rfl, rfl, rfl⟩
    · rw [if_neg c3] at h
      refine rjf (a := (20, [(0, .ref 0), (1, .int x1), (2, .int x2)], [])) (b := (12, [(0, .ref 0), (1, .int x1), (2, .int x2)], [])) rfl rfl c3 ?_
      refine rsn 2 (t := (14, [(0, .ref 0), (1, .int x1), (2, .int x2)], [.ref 0, .int x2])) rfl ?_
      obtain ⟨r4, g4, h⟩ := b1_some h
      refine rcV 75 0 [] rfl rfl rfl (hSh.1.k 0 rfl _) (Nat.le_of_ble_eq_true rfl) rfl (e_SC_daysToCome N (by omega) hSh g4) ?_
      show RN xs L true (Ev xs L true d) 111 17 [(0, .ref 0), (1, .int x1), (2, .int x2)] [.int r4, .int x2] (m, S) (some (.int r0)) (mf, Sf)
      by_cases c5 : x2 < r4
      · rw [if_pos c5] at h
        refine rjt (a := (22, [(0, .ref 0), (1, .int x1), (2, .int x2)], [])) (b := (20, [(0, .ref 0), (1, .int x1), (2, .int x2)], [])) rfl rfl c5 ?_
        refine rsn 1 (t := (23, [(0, .ref 0), (1, .int x1), (2, .int x2)], [.ref 0])) rfl ?_
        refine rgR rfl rfl rfl (hSh.1.k 0 rfl _) (hSh.1.r 89 rfl _) ?_
        refine rsn 2 (t := (28, [(0, .ref 0), (1, .int x1), (2, .int x2)], [.int 0, .int x1, .ref 17])) rfl ?_
        obtain ⟨r6, m6, S6, g6, h⟩ := b4_some h
        obtain ⟨hSh6, h⟩ := ckc_some h
        refine rcV 98 17 [.int x1, .int 0] rfl rfl rfl (hSh.1.k 17 rfl _) (Nat.le_of_ble_eq_true rfl) rfl (e_Book_sight N (by omega) hSh g6) ?_
        obtain ⟨c6, h⟩ := ck_some h
        show RN xs L true (Ev xs L true d) 111 31 [(0, .ref 0), (1, .int x1), (2, .int x2)] [.ref r6] (m6, S6) (some (.int r0)) (mf, Sf)
        refine rsn 2 (t := (33, [(3, .ref r6), (0, .ref 0), (1, .int x1), (2, .int x2)], [.ref 0])) rfl ?_
        refine pgJ rfl rfl rfl (hSh6.1.k 0 rfl _) ?_
        show RN xs L true (Ev xs L true d) 111 36 [(3, .ref r6), (0, .ref 0), (1, .int x1), (2, .int x2)] [.long ((mJ m6 0 7))] (m6, S6) (some (.int r0)) (mf, Sf)
        refine rsn 5 (t := (44, [(7, .int 0), (6, .int ((-1))), (4, .long ((mJ m6 0 7))), (3, .ref r6), (0, .ref 0), (1, .int x1), (2, .int x2)], [])) rfl ?_
        have ex44 : ∀ (z19_4 : Int64) (z19_6 : Int32) (z19_7 : Int32) (m19 : Mm), (some (z19_6, m19, S6)) = some (r0, mf, Sf) → RN xs L true (Ev xs L true d) 111 149 [(6, .int z19_6)] [] (m19, S6) (some (.int r0)) (mf, Sf) := by
          intro z19_4 z19_6 z19_7 m19 h
          try dsimp only at h
          refine rsn 1 (t := (151, [(6, .int z19_6)], [.int z19_6])) rfl ?_
          obtain ⟨h, h2⟩ := Prod.mk.inj (Option.some.inj h)
          obtain ⟨h2, h3⟩ := Prod.mk.inj h2
          subst h
          subst h2
          subst h3
          exact rret rfl ⟨rfl, rfl, _, _, rfl, rfl, rfl, rfl⟩
        have lp44 : ∀ (n : Nat) (y20_4 : Int64) (y20_6 : Int32) (y20_7 : Int32) (m20 : Mm), (f_SC_proof_L44 N S6 x2 r6 (fun (z19_4 : Int64) (z19_6 : Int32) (z19_7 : Int32) (m19 : Mm) => some (z19_6, m19, S6)) n y20_4 y20_6 y20_7 m20) = some (r0, mf, Sf) → RN xs L true (Ev xs L true d) 111 44 [(0, .ref 0), (2, .int x2), (3, .ref r6), (4, .long y20_4), (6, .int y20_6), (7, .int y20_7)] [] (m20, S6) (some (.int r0)) (mf, Sf) := by
          intro n
          induction n with
          | zero => intro y20_4 y20_6 y20_7 m20 h; exact absurd h (by simp [f_SC_proof_L44])
          | succ n44 ih44 =>
            intro y20_4 y20_6 y20_7 m20 h
            try dsimp only at h
            rw [f_SC_proof_L44] at h
            try dsimp only at h
            refine rsn 2 (t := (47, [(0, .ref 0), (2, .int x2), (3, .ref r6), (4, .long y20_4), (6, .int y20_6), (7, .int y20_7)], [.int x2, .int y20_7])) rfl ?_
            by_cases c21 : x2 < y20_7
            · rw [if_pos c21] at h
              refine rjt (a := (149, [(0, .ref 0), (2, .int x2), (3, .ref r6), (4, .long y20_4), (6, .int y20_6), (7, .int y20_7)], [])) (b := (50, [(0, .ref 0), (2, .int x2), (3, .ref r6), (4, .long y20_4), (6, .int y20_6), (7, .int y20_7)], [])) rfl rfl c21 ?_
              exact rsub [(6, .int y20_6)] ⟨rfl, trivial⟩ ⟨rfl, trivial⟩ (ex44 y20_4 y20_6 y20_7 m20 h)
            · rw [if_neg c21] at h
              refine rjf (a := (149, [(0, .ref 0), (2, .int x2), (3, .ref r6), (4, .long y20_4), (6, .int y20_6), (7, .int y20_7)], [])) (b := (50, [(0, .ref 0), (2, .int x2), (3, .ref r6), (4, .long y20_4), (6, .int y20_6), (7, .int y20_7)], [])) rfl rfl c21 ?_
              refine rsn 1 (t := (52, [(0, .ref 0), (2, .int x2), (3, .ref r6), (4, .long y20_4), (6, .int y20_6), (7, .int y20_7)], [.long y20_4])) rfl ?_
              obtain ⟨r22, g22, h⟩ := b1_some h
              refine rcS 63 [.long y20_4] rfl rfl rfl (Nat.le_of_ble_eq_true rfl) rfl (e_State_dayOf N (by omega) g22) ?_
              show RN xs L true (Ev xs L true d) 111 55 [(0, .ref 0), (2, .int x2), (3, .ref r6), (4, .long y20_4), (6, .int y20_6), (7, .int y20_7)] [.int r22] (m20, S6) (some (.int r0)) (mf, Sf)
              refine rsn 4 (t := (62, [(8, .int r22), (0, .ref 0), (2, .int x2), (3, .ref r6), (4, .long y20_4), (6, .int y20_6), (7, .int y20_7)], [.int r22, .long y20_4, .ref r6])) rfl ?_
              obtain ⟨r23, m23, g23, h⟩ := b2_some h
              refine rcV 112 r6 [.long y20_4, .int r22] rfl rfl rfl (hSh6.kS c6 _) (Nat.le_of_ble_eq_true rfl) rfl (e_Sight_worstAlt N (by omega) hSh6 c6 g23) ?_
              show RN xs L true (Ev xs L true d) 111 65 [(8, .int r22), (0, .ref 0), (2, .int x2), (3, .ref r6), (4, .long y20_4), (6, .int y20_6), (7, .int y20_7)] [.int r23] (m23, S6) (some (.int r0)) (mf, Sf)
              refine rsn 2 (t := (68, [(9, .int r23), (8, .int r22), (0, .ref 0), (2, .int x2), (3, .ref r6), (4, .long y20_4), (6, .int y20_6), (7, .int y20_7)], [.ref 0])) rfl ?_
              refine rgR rfl rfl rfl (hSh6.1.k 0 rfl _) (hSh6.1.r 88 rfl _) ?_
              refine rsn 2 (t := (75, [(9, .int r23), (8, .int r22), (0, .ref 0), (2, .int x2), (3, .ref r6), (4, .long y20_4), (6, .int y20_6), (7, .int y20_7)], [.int r23, .int r22, .ref 10])) rfl ?_
              obtain ⟨r24, g24, h⟩ := b1_some h
              refine rcV 64 10 [.int r22, .int r23] rfl rfl rfl (hSh6.1.k 10 rfl _) (Nat.le_of_ble_eq_true rfl) rfl (e_Will_thing N (by omega) hSh6 (by decide) g24) ?_
              show RN xs L true (Ev xs L true d) 111 78 [(9, .int r23), (8, .int r22), (0, .ref 0), (2, .int x2), (3, .ref r6), (4, .long y20_4), (6, .int y20_6), (7, .int y20_7)] [.int r24] (m23, S6) (some (.int r0)) (mf, Sf)
              refine rsn 2 (t := (81, [(10, .int r24), (9, .int r23), (8, .int r22), (0, .ref 0), (2, .int x2), (3, .ref r6), (4, .long y20_4), (6, .int y20_6), (7, .int y20_7)], [.ref 0])) rfl ?_
              refine rgR rfl rfl rfl (hSh6.1.k 0 rfl _) (hSh6.1.r 88 rfl _) ?_
              refine rsn 3 (t := (90, [(10, .int r24), (9, .int r23), (8, .int r22), (0, .ref 0), (2, .int x2), (3, .ref r6), (4, .long y20_4), (6, .int y20_6), (7, .int y20_7)], [.int r23, .int r22, .long y20_4, .ref 10])) rfl ?_
              obtain ⟨r25, g25, h⟩ := b1_some h
              refine rcV 65 10 [.long y20_4, .int r22, .int r23] rfl rfl rfl (hSh6.1.k 10 rfl _) (Nat.le_of_ble_eq_true rfl) rfl (e_Will_passed N (by omega) hSh6 (by decide) g25) ?_
              show RN xs L true (Ev xs L true d) 111 93 [(10, .int r24), (9, .int r23), (8, .int r22), (0, .ref 0), (2, .int x2), (3, .ref r6), (4, .long y20_4), (6, .int y20_6), (7, .int y20_7)] [.long r25] (m23, S6) (some (.int r0)) (mf, Sf)
              refine rsn 3 (t := (98, [(4, .long r25), (10, .int r24), (9, .int r23), (8, .int r22), (0, .ref 0), (2, .int x2), (3, .ref r6), (6, .int y20_6), (7, .int y20_7)], [.int ((-1)), .int r24])) rfl ?_
              have jp114 : ∀ (s26 : Int32) (m27 : Mm), ((jn (fun (y28 : Int64) => f_SC_proof_L44 N S6 x2 r6 (fun (z19_4 : Int64) (z19_6 : Int32) (z19_7 : Int32) (m19 : Mm) => some (z19_6, m19, S6)) n44 y28 ((((r23 * 10)) + s26)) ((y20_7 + 1)) m27) (fun j133 => if r24 = ((-1)) then j133 r25 else b1 (f_State_with N r25 r24 s26) fun r30 => j133 r30))) = some (r0, mf, Sf) → RN xs L true (Ev xs L true d) 111 114 [(0, .ref 0), (2, .int x2), (3, .ref r6), (4, .long r25), (7, .int y20_7), (9, .int r23), (10, .int r24)] [.int s26] (m27, S6) (some (.int r0)) (mf, Sf) := by
                intro s26 m27 h
                try dsimp only at h
                refine rsn 3 (t := (119, [(11, .int s26), (0, .ref 0), (2, .int x2), (3, .ref r6), (4, .long r25), (7, .int y20_7), (9, .int r23), (10, .int r24)], [.int ((-1)), .int r24])) rfl ?_
                have jp133 : ∀ (y28 : Int64), (f_SC_proof_L44 N S6 x2 r6 (fun (z19_4 : Int64) (z19_6 : Int32) (z19_7 : Int32) (m19 : Mm) => some (z19_6, m19, S6)) n44 y28 ((((r23 * 10)) + s26)) ((y20_7 + 1)) m27) = some (r0, mf, Sf) → RN xs L true (Ev xs L true d) 111 133 [(0, .ref 0), (2, .int x2), (3, .ref r6), (4, .long y28), (7, .int y20_7), (9, .int r23), (11, .int s26)] [] (m27, S6) (some (.int r0)) (mf, Sf) := by
                  intro y28 h
                  try dsimp only at h
                  refine rsn 8 (t := (44, [(7, .int ((y20_7 + 1))), (6, .int ((((r23 * 10)) + s26))), (0, .ref 0), (2, .int x2), (3, .ref r6), (4, .long y28), (9, .int r23), (11, .int s26)], [])) rfl ?_
                  exact rsub [(0, .ref 0), (2, .int x2), (3, .ref r6), (4, .long y28), (6, .int ((((r23 * 10)) + s26))), (7, .int ((y20_7 + 1)))] ⟨rfl, ⟨rfl, ⟨rfl, ⟨rfl, ⟨rfl, ⟨rfl, trivial⟩⟩⟩⟩⟩⟩ ⟨rfl, ⟨rfl, ⟨rfl, ⟨rfl, ⟨rfl, ⟨rfl, trivial⟩⟩⟩⟩⟩⟩ (ih44 y28 ((((r23 * 10)) + s26)) ((y20_7 + 1)) m27 h)
                rw [jn] at h
                try dsimp only at h
                by_cases c29 : r24 = ((-1))
                · rw [if_pos c29] at h
                  refine rjt (a := (133, [(11, .int s26), (0, .ref 0), (2, .int x2), (3, .ref r6), (4, .long r25), (7, .int y20_7), (9, .int r23), (10, .int r24)], [])) (b := (122, [(11, .int s26), (0, .ref 0), (2, .int x2), (3, .ref r6), (4, .long r25), (7, .int y20_7), (9, .int r23), (10, .int r24)], [])) rfl rfl c29 ?_
                  exact rsub [(0, .ref 0), (2, .int x2), (3, .ref r6), (4, .long r25), (7, .int y20_7), (9, .int r23), (11, .int s26)] ⟨rfl, ⟨rfl, ⟨rfl, ⟨rfl, ⟨rfl, ⟨rfl, ⟨rfl, trivial⟩⟩⟩⟩⟩⟩⟩ ⟨rfl, ⟨rfl, ⟨rfl, ⟨rfl, ⟨rfl, ⟨rfl, ⟨rfl, trivial⟩⟩⟩⟩⟩⟩⟩ (jp133 r25 h)
                · rw [if_neg c29] at h
                  refine rjf (a := (133, [(11, .int s26), (0, .ref 0), (2, .int x2), (3, .ref r6), (4, .long r25), (7, .int y20_7), (9, .int r23), (10, .int r24)], [])) (b := (122, [(11, .int s26), (0, .ref 0), (2, .int x2), (3, .ref r6), (4, .long r25), (7, .int y20_7), (9, .int r23), (10, .int r24)], [])) rfl rfl c29 ?_
                  refine rsn 3 (t := (128, [(11, .int s26), (0, .ref 0), (2, .int x2), (3, .ref r6), (4, .long r25), (7, .int y20_7), (9, .int r23), (10, .int r24)], [.int s26, .int r24, .long r25])) rfl ?_
                  obtain ⟨r30, g30, h⟩ := b1_some h
                  refine rcS 70 [.long r25, .int r24, .int s26] rfl rfl rfl (Nat.le_of_ble_eq_true rfl) rfl (e_State_with N (by omega) g30) ?_
                  show RN xs L true (Ev xs L true d) 111 131 [(11, .int s26), (0, .ref 0), (2, .int x2), (3, .ref r6), (4, .long r25), (7, .int y20_7), (9, .int r23), (10, .int r24)] [.long r30] (m27, S6) (some (.int r0)) (mf, Sf)
                  refine rsn 1 (t := (133, [(4, .long r30), (11, .int s26), (0, .ref 0), (2, .int x2), (3, .ref r6), (7, .int y20_7), (9, .int r23), (10, .int r24)], [])) rfl ?_
                  exact rsub [(0, .ref 0), (2, .int x2), (3, .ref r6), (4, .long r30), (7, .int y20_7), (9, .int r23), (11, .int s26)] ⟨rfl, ⟨rfl, ⟨rfl, ⟨rfl, ⟨rfl, ⟨rfl, ⟨rfl, trivial⟩⟩⟩⟩⟩⟩⟩ ⟨rfl, ⟨rfl, ⟨rfl, ⟨rfl, ⟨rfl, ⟨rfl, ⟨rfl, trivial⟩⟩⟩⟩⟩⟩⟩ (jp133 r30 h)
              rw [jn] at h
              try dsimp only at h
              by_cases c31 : r24 = ((-1))
              · rw [if_pos c31] at h
                refine rjf (a := (106, [(4, .long r25), (10, .int r24), (9, .int r23), (8, .int r22), (0, .ref 0), (2, .int x2), (3, .ref r6), (6, .int y20_6), (7, .int y20_7)], [])) (b := (101, [(4, .long r25), (10, .int r24), (9, .int r23), (8, .int r22), (0, .ref 0), (2, .int x2), (3, .ref r6), (6, .int y20_6), (7, .int y20_7)], [])) rfl rfl (fun q => q c31) ?_
                refine rsn 2 (t := (114, [(4, .long r25), (10, .int r24), (9, .int r23), (8, .int r22), (0, .ref 0), (2, .int x2), (3, .ref r6), (6, .int y20_6), (7, .int y20_7)], [.int 9])) rfl ?_
                exact rsub [(0, .ref 0), (2, .int x2), (3, .ref r6), (4, .long r25), (7, .int y20_7), (9, .int r23), (10, .int r24)] ⟨rfl, ⟨rfl, ⟨rfl, ⟨rfl, ⟨rfl, ⟨rfl, ⟨rfl, trivial⟩⟩⟩⟩⟩⟩⟩ ⟨rfl, ⟨rfl, ⟨rfl, ⟨rfl, ⟨rfl, ⟨rfl, ⟨rfl, trivial⟩⟩⟩⟩⟩⟩⟩ (jp114 9 m23 h)
              · rw [if_neg c31] at h
                refine rjt (a := (106, [(4, .long r25), (10, .int r24), (9, .int r23), (8, .int r22), (0, .ref 0), (2, .int x2), (3, .ref r6), (6, .int y20_6), (7, .int y20_7)], [])) (b := (101, [(4, .long r25), (10, .int r24), (9, .int r23), (8, .int r22), (0, .ref 0), (2, .int x2), (3, .ref r6), (6, .int y20_6), (7, .int y20_7)], [])) rfl rfl c31 ?_
                refine rsn 3 (t := (111, [(4, .long r25), (10, .int r24), (9, .int r23), (8, .int r22), (0, .ref 0), (2, .int x2), (3, .ref r6), (6, .int y20_6), (7, .int y20_7)], [.int r24, .long r25, .ref r6])) rfl ?_
                obtain ⟨r32, m32, g32, h⟩ := b2_some h
                refine rcV 110 r6 [.long r25, .int r24] rfl rfl rfl (hSh6.kS c6 _) (Nat.le_of_ble_eq_true rfl) rfl (e_Sight_bestGift N (by omega) hSh6 c6 g32) ?_
                show RN xs L true (Ev xs L true d) 111 114 [(4, .long r25), (10, .int r24), (9, .int r23), (8, .int r22), (0, .ref 0), (2, .int x2), (3, .ref r6), (6, .int y20_6), (7, .int y20_7)] [.int r32] (m32, S6) (some (.int r0)) (mf, Sf)
                exact rsub [(0, .ref 0), (2, .int x2), (3, .ref r6), (4, .long r25), (7, .int y20_7), (9, .int r23), (10, .int r24)] ⟨rfl, ⟨rfl, ⟨rfl, ⟨rfl, ⟨rfl, ⟨rfl, ⟨rfl, trivial⟩⟩⟩⟩⟩⟩⟩ ⟨rfl, ⟨rfl, ⟨rfl, ⟨rfl, ⟨rfl, ⟨rfl, ⟨rfl, trivial⟩⟩⟩⟩⟩⟩⟩ (jp114 r32 m32 h)
        exact rsub [(0, .ref 0), (2, .int x2), (3, .ref r6), (4, .long ((mJ m6 0 7))), (6, .int ((-1))), (7, .int 0)] ⟨rfl, ⟨rfl, ⟨rfl, ⟨rfl, ⟨rfl, ⟨rfl, trivial⟩⟩⟩⟩⟩⟩ ⟨rfl, ⟨rfl, ⟨rfl, ⟨rfl, ⟨rfl, ⟨rfl, trivial⟩⟩⟩⟩⟩⟩ (lp44 N ((mJ m6 0 7)) ((-1)) 0 m6 h)
      · rw [if_neg c5] at h
        refine rjf (a := (22, [(0, .ref 0), (1, .int x1), (2, .int x2)], [])) (b := (20, [(0, .ref 0), (1, .int x1), (2, .int x2)], [])) rfl rfl c5 ?_
        refine rsn 1 (t := (21, [(0, .ref 0), (1, .int x1), (2, .int x2)], [.int ((-1))])) rfl ?_
        obtain ⟨h, h2⟩ := Prod.mk.inj (Option.some.inj h)
        obtain ⟨h2, h3⟩ := Prod.mk.inj h2
        subst h
        subst h2
        subst h3
        exact rret rfl ⟨rfl, rfl, _, _, rfl, rfl, rfl, rfl⟩
noncomputable def f_SC_known (N : Nat) (S : St) (x1 : Int32) (x2 : Int32) (m : Mm) : Option (Int32 × Mm × St) := b1 (f_SC_canLookAhead N S x1 m) fun r1 => (if r1 = 0 then some ((-2147483648), m, S) else b1 (f_Rows_canBe N S x2 ((mJ m 0 7)) m) fun r3 => (if r3 = 0 then some ((-2147483648), m, S) else b4 (f_Book_ends N S x1 ((mI m 10 3)) m) fun r5 m5 S5 => ckc (ShC S5) (ck (r5 ∈ eKl) (b2 (f_Rows_greatest N S5 ((mJ m 0 7)) x2 r5 m5) fun r6 m6 => some (r6.toInt32, m6, S5)))))
set_option maxRecDepth 20000 in
set_option maxHeartbeats 4000000 in
theorem e_SC_known {xs : Nat → Int32} {L : Nat} (N : Nat) {d : Nat} (hd : 52 ≤ d) {S : St} (hSh : ShC S) {x1 : Int32} {x2 : Int32} {m : Mm} {r0 : Int32} {mf : Mm} {Sf : St} (h : f_SC_known N S x1 x2 m = some (r0, mf, Sf)) : Ev xs L true d 113 [.ref 0, .int x1, .int x2] (m, S) (some (.int r0)) (mf, Sf) := by
  obtain ⟨d, rfl⟩ : ∃ e, d = e + 1 := ⟨d - 1, by omega⟩
  refine ev_of (by decide) (Nat.le_of_ble_eq_true rfl) ?_
  rw [f_SC_known] at h
  show RN xs L true (Ev xs L true d) 113 0 [(0, .ref 0), (1, .int x1), (2, .int x2)] [] (m, S) (some (.int r0)) (mf, Sf)
  refine rsn 2 (t := (2, [(0, .ref 0), (1, .int x1), (2, .int x2)], [.int x1, .ref 0])) rfl ?_
  obtain ⟨r1, g1, h⟩ := b1_some h
  refine rcV 73 0 [.int x1] rfl rfl rfl (hSh.1.k 0 rfl _) (Nat.le_of_ble_eq_true rfl) rfl (e_SC_canLookAhead N (by omega) hSh g1) ?_
  show RN xs L true (Ev xs L true d) 113 5 [(0, .ref 0), (1, .int x1), (2, .int x2)] [.int r1] (m, S) (some (.int r0)) (mf, Sf)
  by_cases c2 : r1 = 0
  · rw [if_pos c2] at h
    refine rjt (a := (26, [(0, .ref 0), (1, .int x1), (2, .int x2)], [])) (b := (8, [(0, .ref 0), (1, .int x1), (2, .int x2)], [])) rfl rfl c2 ?_
    refine rsn 1 (t := (28, [(0, .ref 0), (1, .int x1), (2, .int x2)], [.int ((-2147483648))])) rfl ?_
    obtain ⟨h, h2⟩ := Prod.mk.inj (Option.some.inj h)
    obtain ⟨h2, h3⟩ := Prod.mk.inj h2
    subst h
    subst h2
    subst h3
    exact rret rfl ⟨rfl, rfl, _, _, rfl, rfl, rfl, rfl⟩
  · rw [if_neg c2] at h
    refine rjf (a := (26, [(0, .ref 0), (1, .int x1), (2, .int x2)], [])) (b := (8, [(0, .ref 0), (1, .int x1), (2, .int x2)], [])) rfl rfl c2 ?_
    refine rsn 1 (t := (9, [(0, .ref 0), (1, .int x1), (2, .int x2)], [.ref 0])) rfl ?_
    refine rgR rfl rfl rfl (hSh.1.k 0 rfl _) (hSh.1.r 89 rfl _) ?_
    refine rgR rfl rfl rfl (hSh.1.k 17 rfl _) (hSh.1.r 94 rfl _) ?_
    refine rsn 2 (t := (17, [(0, .ref 0), (1, .int x1), (2, .int x2)], [.ref 0, .int x2, .ref 30])) rfl ?_
    refine pgJ rfl rfl rfl (hSh.1.k 0 rfl _) ?_
    show RN xs L true (Ev xs L true d) 113 20 [(0, .ref 0), (1, .int x1), (2, .int x2)] [.long ((mJ m 0 7)), .int x2, .ref 30] (m, S) (some (.int r0)) (mf, Sf)
    obtain ⟨r3, g3, h⟩ := b1_some h
    refine rcV 114 30 [.int x2, .long ((mJ m 0 7))] rfl rfl rfl (hSh.1.k 30 rfl _) (Nat.le_of_ble_eq_true rfl) rfl (e_Rows_canBe N (by omega) hSh g3) ?_
    show RN xs L true (Ev xs L true d) 113 23 [(0, .ref 0), (1, .int x1), (2, .int x2)] [.int r3] (m, S) (some (.int r0)) (mf, Sf)
    by_cases c4 : r3 = 0
    · rw [if_pos c4] at h
      refine rjf (a := (29, [(0, .ref 0), (1, .int x1), (2, .int x2)], [])) (b := (26, [(0, .ref 0), (1, .int x1), (2, .int x2)], [])) rfl rfl (fun q => q c4) ?_
      refine rsn 1 (t := (28, [(0, .ref 0), (1, .int x1), (2, .int x2)], [.int ((-2147483648))])) rfl ?_
      obtain ⟨h, h2⟩ := Prod.mk.inj (Option.some.inj h)
      obtain ⟨h2, h3⟩ := Prod.mk.inj h2
      subst h
      subst h2
      subst h3
      exact rret rfl ⟨rfl, rfl, _, _, rfl, rfl, rfl, rfl⟩
    · rw [if_neg c4] at h
      refine rjt (a := (29, [(0, .ref 0), (1, .int x1), (2, .int x2)], [])) (b := (26, [(0, .ref 0), (1, .int x1), (2, .int x2)], [])) rfl rfl c4 ?_
      refine rsn 1 (t := (30, [(0, .ref 0), (1, .int x1), (2, .int x2)], [.ref 0])) rfl ?_
      refine rgR rfl rfl rfl (hSh.1.k 0 rfl _) (hSh.1.r 89 rfl _) ?_
      refine rgR rfl rfl rfl (hSh.1.k 17 rfl _) (hSh.1.r 94 rfl _) ?_
      refine rsn 1 (t := (37, [(0, .ref 0), (1, .int x1), (2, .int x2)], [.ref 0, .ref 30])) rfl ?_
      refine pgJ rfl rfl rfl (hSh.1.k 0 rfl _) ?_
      show RN xs L true (Ev xs L true d) 113 40 [(0, .ref 0), (1, .int x1), (2, .int x2)] [.long ((mJ m 0 7)), .ref 30] (m, S) (some (.int r0)) (mf, Sf)
      refine rsn 2 (t := (42, [(0, .ref 0), (1, .int x1), (2, .int x2)], [.ref 0, .int x2, .long ((mJ m 0 7)), .ref 30])) rfl ?_
      refine rgR rfl rfl rfl (hSh.1.k 0 rfl _) (hSh.1.r 89 rfl _) ?_
      refine rsn 2 (t := (47, [(0, .ref 0), (1, .int x1), (2, .int x2)], [.ref 0, .int x1, .ref 17, .int x2, .long ((mJ m 0 7)), .ref 30])) rfl ?_
      refine rgR rfl rfl rfl (hSh.1.k 0 rfl _) (hSh.1.r 88 rfl _) ?_
      refine pgI rfl rfl rfl (hSh.1.k 10 rfl _) ?_
      show RN xs L true (Ev xs L true d) 113 53 [(0, .ref 0), (1, .int x1), (2, .int x2)] [.int ((mI m 10 3)), .int x1, .ref 17, .int x2, .long ((mJ m 0 7)), .ref 30] (m, S) (some (.int r0)) (mf, Sf)
      obtain ⟨r5, m5, S5, g5, h⟩ := b4_some h
      obtain ⟨hSh5, h⟩ := ckc_some h
      refine rcV 76 17 [.int x1, .int ((mI m 10 3))] rfl rfl rfl (hSh.1.k 17 rfl _) (Nat.le_of_ble_eq_true rfl) rfl (e_Book_ends N (by omega) hSh g5) ?_
      obtain ⟨c5, h⟩ := ck_some h
      show RN xs L true (Ev xs L true d) 113 56 [(0, .ref 0), (1, .int x1), (2, .int x2)] [.ref r5, .int x2, .long ((mJ m 0 7)), .ref 30] (m5, S5) (some (.int r0)) (mf, Sf)
      obtain ⟨r6, m6, g6, h⟩ := b2_some h
      refine rcV 117 30 [.long ((mJ m 0 7)), .int x2, .ref r5] rfl rfl rfl (hSh5.1.k 30 rfl _) (Nat.le_of_ble_eq_true rfl) rfl (e_Rows_greatest N (by omega) hSh5 c5 g6) ?_
      show RN xs L true (Ev xs L true d) 113 59 [(0, .ref 0), (1, .int x1), (2, .int x2)] [.long r6] (m6, S5) (some (.int r0)) (mf, Sf)
      refine rsn 1 (t := (60, [(0, .ref 0), (1, .int x1), (2, .int x2)], [.int r6.toInt32])) rfl ?_
      obtain ⟨h, h2⟩ := Prod.mk.inj (Option.some.inj h)
      obtain ⟨h2, h3⟩ := Prod.mk.inj h2
      subst h
      subst h2
      subst h3
      exact rret rfl ⟨rfl, rfl, _, _, rfl, rfl, rfl, rfl⟩
noncomputable def f_SC_cost (N : Nat) (S : St) (x1 : Int32) (m : Mm) : Option (Int32 × Mm × St) := b1 (f_SC_canLookAhead N S x1 m) fun r1 => (if r1 = 0 then some ((-2147483648), m, S) else b4 (f_SC_worthNow N S x1 0 m) fun r3 m3 S3 => ckc (ShC S3) (b4 (f_Book_ends N S3 x1 ((mI m3 10 3)) m3) fun r4 m4 S4 => ckc (ShC S4) (ck (r4 ∈ eKl) (b4 (f_Rows_leastGreatest N S4 ((mJ m3 0 7)) r4 r3 m4) fun r5 m5 S5 => ckc (ShC S5) (some (((r5 - r3)).toInt32, m5, S5))))))
set_option maxRecDepth 20000 in
set_option maxHeartbeats 4000000 in
theorem e_SC_cost {xs : Nat → Int32} {L : Nat} (N : Nat) {d : Nat} (hd : 79 ≤ d) {S : St} (hSh : ShC S) {x1 : Int32} {m : Mm} {r0 : Int32} {mf : Mm} {Sf : St} (h : f_SC_cost N S x1 m = some (r0, mf, Sf)) : Ev xs L true d 122 [.ref 0, .int x1] (m, S) (some (.int r0)) (mf, Sf) := by
  obtain ⟨d, rfl⟩ : ∃ e, d = e + 1 := ⟨d - 1, by omega⟩
  refine ev_of (by decide) (Nat.le_of_ble_eq_true rfl) ?_
  rw [f_SC_cost] at h
  show RN xs L true (Ev xs L true d) 122 0 [(0, .ref 0), (1, .int x1)] [] (m, S) (some (.int r0)) (mf, Sf)
  refine rsn 2 (t := (2, [(0, .ref 0), (1, .int x1)], [.int x1, .ref 0])) rfl ?_
  obtain ⟨r1, g1, h⟩ := b1_some h
  refine rcV 73 0 [.int x1] rfl rfl rfl (hSh.1.k 0 rfl _) (Nat.le_of_ble_eq_true rfl) rfl (e_SC_canLookAhead N (by omega) hSh g1) ?_
  show RN xs L true (Ev xs L true d) 122 5 [(0, .ref 0), (1, .int x1)] [.int r1] (m, S) (some (.int r0)) (mf, Sf)
  by_cases c2 : r1 = 0
  · rw [if_pos c2] at h
    refine rjf (a := (11, [(0, .ref 0), (1, .int x1)], [])) (b := (8, [(0, .ref 0), (1, .int x1)], [])) rfl rfl (fun q => q c2) ?_
    refine rsn 1 (t := (10, [(0, .ref 0), (1, .int x1)], [.int ((-2147483648))])) rfl ?_
    obtain ⟨h, h2⟩ := Prod.mk.inj (Option.some.inj h)
    obtain ⟨h2, h3⟩ := Prod.mk.inj h2
    subst h
    subst h2
    subst h3
    exact rret rfl ⟨rfl, rfl, _, _, rfl, rfl, rfl, rfl⟩
  · rw [if_neg c2] at h
    refine rjt (a := (11, [(0, .ref 0), (1, .int x1)], [])) (b := (8, [(0, .ref 0), (1, .int x1)], [])) rfl rfl c2 ?_
    refine rsn 3 (t := (14, [(0, .ref 0), (1, .int x1)], [.int 0, .int x1, .ref 0])) rfl ?_
    obtain ⟨r3, m3, S3, g3, h⟩ := b4_some h
    obtain ⟨hSh3, h⟩ := ckc_some h
    refine rcV 97 0 [.int x1, .int 0] rfl rfl rfl (hSh.1.k 0 rfl _) (Nat.le_of_ble_eq_true rfl) rfl (e_SC_worthNow N (by omega) hSh g3) ?_
    show RN xs L true (Ev xs L true d) 122 17 [(0, .ref 0), (1, .int x1)] [.long r3] (m3, S3) (some (.int r0)) (mf, Sf)
    refine rsn 2 (t := (19, [(2, .long r3), (0, .ref 0), (1, .int x1)], [.ref 0])) rfl ?_
    refine rgR rfl rfl rfl (hSh3.1.k 0 rfl _) (hSh3.1.r 89 rfl _) ?_
    refine rgR rfl rfl rfl (hSh3.1.k 17 rfl _) (hSh3.1.r 94 rfl _) ?_
    refine rsn 1 (t := (26, [(2, .long r3), (0, .ref 0), (1, .int x1)], [.ref 0, .ref 30])) rfl ?_
    refine pgJ rfl rfl rfl (hSh3.1.k 0 rfl _) ?_
    show RN xs L true (Ev xs L true d) 122 29 [(2, .long r3), (0, .ref 0), (1, .int x1)] [.long ((mJ m3 0 7)), .ref 30] (m3, S3) (some (.int r0)) (mf, Sf)
    refine rsn 1 (t := (30, [(2, .long r3), (0, .ref 0), (1, .int x1)], [.ref 0, .long ((mJ m3 0 7)), .ref 30])) rfl ?_
    refine rgR rfl rfl rfl (hSh3.1.k 0 rfl _) (hSh3.1.r 89 rfl _) ?_
    refine rsn 2 (t := (35, [(2, .long r3), (0, .ref 0), (1, .int x1)], [.ref 0, .int x1, .ref 17, .long ((mJ m3 0 7)), .ref 30])) rfl ?_
    refine rgR rfl rfl rfl (hSh3.1.k 0 rfl _) (hSh3.1.r 88 rfl _) ?_
    refine pgI rfl rfl rfl (hSh3.1.k 10 rfl _) ?_
    show RN xs L true (Ev xs L true d) 122 41 [(2, .long r3), (0, .ref 0), (1, .int x1)] [.int ((mI m3 10 3)), .int x1, .ref 17, .long ((mJ m3 0 7)), .ref 30] (m3, S3) (some (.int r0)) (mf, Sf)
    obtain ⟨r4, m4, S4, g4, h⟩ := b4_some h
    obtain ⟨hSh4, h⟩ := ckc_some h
    refine rcV 76 17 [.int x1, .int ((mI m3 10 3))] rfl rfl rfl (hSh3.1.k 17 rfl _) (Nat.le_of_ble_eq_true rfl) rfl (e_Book_ends N (by omega) hSh3 g4) ?_
    obtain ⟨c4, h⟩ := ck_some h
    show RN xs L true (Ev xs L true d) 122 44 [(2, .long r3), (0, .ref 0), (1, .int x1)] [.ref r4, .long ((mJ m3 0 7)), .ref 30] (m4, S4) (some (.int r0)) (mf, Sf)
    refine rsn 1 (t := (45, [(2, .long r3), (0, .ref 0), (1, .int x1)], [.long r3, .ref r4, .long ((mJ m3 0 7)), .ref 30])) rfl ?_
    obtain ⟨r5, m5, S5, g5, h⟩ := b4_some h
    obtain ⟨hSh5, h⟩ := ckc_some h
    refine rcV 123 30 [.long ((mJ m3 0 7)), .ref r4, .long r3] rfl rfl rfl (hSh4.1.k 30 rfl _) (Nat.le_of_ble_eq_true rfl) rfl (e_Rows_leastGreatest N (by omega) hSh4 c4 g5) ?_
    show RN xs L true (Ev xs L true d) 122 48 [(2, .long r3), (0, .ref 0), (1, .int x1)] [.long r5] (m5, S5) (some (.int r0)) (mf, Sf)
    refine rsn 3 (t := (51, [(2, .long r3), (0, .ref 0), (1, .int x1)], [.int (((r5 - r3)).toInt32)])) rfl ?_
    obtain ⟨h, h2⟩ := Prod.mk.inj (Option.some.inj h)
    obtain ⟨h2, h3⟩ := Prod.mk.inj h2
    subst h
    subst h2
    subst h3
    exact rret rfl ⟨rfl, rfl, _, _, rfl, rfl, rfl, rfl⟩
noncomputable def f_SC_fare (N : Nat) (S : St) (x1 : Int32) (x2 : Int32) (x3 : Int32) (m : Mm) : Option (Int32 × Mm × St) := b1 (f_SC_canLookAhead N S x2 m) fun r1 => (if r1 = 0 then some ((-2147483648), m, S) else (if x1 < 0 then some ((-2147483648), m, S) else (if x1 ≤ 4 then b4 (f_Book_ways N S x1 x2 x3 m) fun r5 m5 S5 => ckc (ShC S5) (ck (r5 = 97) (b2 (f_Ways_outcome N S5 ((mJ m5 0 7)) m5) fun r6 m6 => (if x3 = 0 then some (r6.toInt32, m6, S5) else b1 (f_SC_thousandths N S5 r6 m6) fun r8 => some (r8, m6, S5)))) else some ((-2147483648), m, S))))
set_option maxRecDepth 20000 in
set_option maxHeartbeats 4000000 in
theorem e_SC_fare {xs : Nat → Int32} {L : Nat} (N : Nat) {d : Nat} (hd : 89 ≤ d) {S : St} (hSh : ShC S) {x1 : Int32} {x2 : Int32} {x3 : Int32} {m : Mm} {r0 : Int32} {mf : Mm} {Sf : St} (h : f_SC_fare N S x1 x2 x3 m = some (r0, mf, Sf)) : Ev xs L true d 127 [.ref 0, .int x1, .int x2, .int x3] (m, S) (some (.int r0)) (mf, Sf) := by
  obtain ⟨d, rfl⟩ : ∃ e, d = e + 1 := ⟨d - 1, by omega⟩
  refine ev_of (by decide) (Nat.le_of_ble_eq_true rfl) ?_
  rw [f_SC_fare] at h
  show RN xs L true (Ev xs L true d) 127 0 [(0, .ref 0), (1, .int x1), (2, .int x2), (3, .int x3)] [] (m, S) (some (.int r0)) (mf, Sf)
  refine rsn 2 (t := (2, [(0, .ref 0), (1, .int x1), (2, .int x2), (3, .int x3)], [.int x2, .ref 0])) rfl ?_
  obtain ⟨r1, g1, h⟩ := b1_some h
  refine rcV 73 0 [.int x2] rfl rfl rfl (hSh.1.k 0 rfl _) (Nat.le_of_ble_eq_true rfl) rfl (e_SC_canLookAhead N (by omega) hSh g1) ?_
  show RN xs L true (Ev xs L true d) 127 5 [(0, .ref 0), (1, .int x1), (2, .int x2), (3, .int x3)] [.int r1] (m, S) (some (.int r0)) (mf, Sf)
  by_cases c2 : r1 = 0
  · rw [if_pos c2] at h
    refine rjt (a := (17, [(0, .ref 0), (1, .int x1), (2, .int x2), (3, .int x3)], [])) (b := (8, [(0, .ref 0), (1, .int x1), (2, .int x2), (3, .int x3)], [])) rfl rfl c2 ?_
    refine rsn 1 (t := (19, [(0, .ref 0), (1, .int x1), (2, .int x2), (3, .int x3)], [.int ((-2147483648))])) rfl ?_
    obtain ⟨h, h2⟩ := Prod.mk.inj (Option.some.inj h)
    obtain ⟨h2, h3⟩ := Prod.mk.inj h2
    subst h
    subst h2
    subst h3
    exact rret rfl ⟨rfl, rfl, _, _, rfl, rfl, rfl, rfl⟩
  · rw [if_neg c2] at h
    refine rjf (a := (17, [(0, .ref 0), (1, .int x1), (2, .int x2), (3, .int x3)], [])) (b := (8, [(0, .ref 0), (1, .int x1), (2, .int x2), (3, .int x3)], [])) rfl rfl c2 ?_
    refine rsn 1 (t := (9, [(0, .ref 0), (1, .int x1), (2, .int x2), (3, .int x3)], [.int x1])) rfl ?_
    by_cases c3 : x1 < 0
    · rw [if_pos c3] at h
      refine rjt (a := (17, [(0, .ref 0), (1, .int x1), (2, .int x2), (3, .int x3)], [])) (b := (12, [(0, .ref 0), (1, .int x1), (2, .int x2), (3, .int x3)], [])) rfl rfl c3 ?_
      refine rsn 1 (t := (19, [(0, .ref 0), (1, .int x1), (2, .int x2), (3, .int x3)], [.int ((-2147483648))])) rfl ?_
      obtain ⟨h, h2⟩ := Prod.mk.inj (Option.some.inj h)
      obtain ⟨h2, h3⟩ := Prod.mk.inj h2
      subst h
      subst h2
      subst h3
      exact rret rfl ⟨rfl, rfl, _, _, rfl, rfl, rfl, rfl⟩
    · rw [if_neg c3] at h
      refine rjf (a := (17, [(0, .ref 0), (1, .int x1), (2, .int x2), (3, .int x3)], [])) (b := (12, [(0, .ref 0), (1, .int x1), (2, .int x2), (3, .int x3)], [])) rfl rfl c3 ?_
      refine rsn 2 (t := (14, [(0, .ref 0), (1, .int x1), (2, .int x2), (3, .int x3)], [.int 4, .int x1])) rfl ?_
      by_cases c4 : x1 ≤ 4
      · rw [if_pos c4] at h
        refine rjt (a := (20, [(0, .ref 0), (1, .int x1), (2, .int x2), (3, .int x3)], [])) (b := (17, [(0, .ref 0), (1, .int x1), (2, .int x2), (3, .int x3)], [])) rfl rfl c4 ?_
        refine rsn 1 (t := (21, [(0, .ref 0), (1, .int x1), (2, .int x2), (3, .int x3)], [.ref 0])) rfl ?_
        refine rgR rfl rfl rfl (hSh.1.k 0 rfl _) (hSh.1.r 89 rfl _) ?_
        refine rsn 3 (t := (27, [(0, .ref 0), (1, .int x1), (2, .int x2), (3, .int x3)], [.int x3, .int x2, .int x1, .ref 17])) rfl ?_
        obtain ⟨r5, m5, S5, g5, h⟩ := b4_some h
        obtain ⟨hSh5, h⟩ := ckc_some h
        refine rcV 128 17 [.int x1, .int x2, .int x3] rfl rfl rfl (hSh.1.k 17 rfl _) (Nat.le_of_ble_eq_true rfl) rfl (e_Book_ways N (by omega) hSh g5) ?_
        obtain ⟨c5, hn5⟩ := ck_some h
        subst c5
        have h := hn5
        show RN xs L true (Ev xs L true d) 127 30 [(0, .ref 0), (1, .int x1), (2, .int x2), (3, .int x3)] [.ref 97] (m5, S5) (some (.int r0)) (mf, Sf)
        refine rsn 1 (t := (31, [(0, .ref 0), (1, .int x1), (2, .int x2), (3, .int x3)], [.ref 0, .ref 97])) rfl ?_
        refine pgJ rfl rfl rfl (hSh5.1.k 0 rfl _) ?_
        show RN xs L true (Ev xs L true d) 127 34 [(0, .ref 0), (1, .int x1), (2, .int x2), (3, .int x3)] [.long ((mJ m5 0 7)), .ref 97] (m5, S5) (some (.int r0)) (mf, Sf)
        obtain ⟨r6, m6, g6, h⟩ := b2_some h
        refine rcV 130 97 [.long ((mJ m5 0 7))] rfl rfl rfl (hSh5.1.k 97 rfl _) (Nat.le_of_ble_eq_true rfl) rfl (e_Ways_outcome N (by omega) hSh5 g6) ?_
        show RN xs L true (Ev xs L true d) 127 37 [(0, .ref 0), (1, .int x1), (2, .int x2), (3, .int x3)] [.long r6] (m6, S5) (some (.int r0)) (mf, Sf)
        refine rsn 2 (t := (40, [(4, .long r6), (0, .ref 0), (1, .int x1), (2, .int x2), (3, .int x3)], [.int x3])) rfl ?_
        by_cases c7 : x3 = 0
        · rw [if_pos c7] at h
          refine rjt (a := (52, [(4, .long r6), (0, .ref 0), (1, .int x1), (2, .int x2), (3, .int x3)], [])) (b := (43, [(4, .long r6), (0, .ref 0), (1, .int x1), (2, .int x2), (3, .int x3)], [])) rfl rfl c7 ?_
          refine rsn 2 (t := (55, [(4, .long r6), (0, .ref 0), (1, .int x1), (2, .int x2), (3, .int x3)], [.int r6.toInt32])) rfl ?_
          obtain ⟨h, h2⟩ := Prod.mk.inj (Option.some.inj h)
          obtain ⟨h2, h3⟩ := Prod.mk.inj h2
          subst h
          subst h2
          subst h3
          exact rret rfl ⟨rfl, rfl, _, _, rfl, rfl, rfl, rfl⟩
        · rw [if_neg c7] at h
          refine rjf (a := (52, [(4, .long r6), (0, .ref 0), (1, .int x1), (2, .int x2), (3, .int x3)], [])) (b := (43, [(4, .long r6), (0, .ref 0), (1, .int x1), (2, .int x2), (3, .int x3)], [])) rfl rfl c7 ?_
          refine rsn 2 (t := (46, [(4, .long r6), (0, .ref 0), (1, .int x1), (2, .int x2), (3, .int x3)], [.long r6, .ref 0])) rfl ?_
          obtain ⟨r8, g8, h⟩ := b1_some h
          refine rcV 108 0 [.long r6] rfl rfl rfl (hSh5.1.k 0 rfl _) (Nat.le_of_ble_eq_true rfl) rfl (e_SC_thousandths N (by omega) hSh5 g8) ?_
          show RN xs L true (Ev xs L true d) 127 49 [(4, .long r6), (0, .ref 0), (1, .int x1), (2, .int x2), (3, .int x3)] [.int r8] (m6, S5) (some (.int r0)) (mf, Sf)
          refine rsn 1 (t := (55, [(4, .long r6), (0, .ref 0), (1, .int x1), (2, .int x2), (3, .int x3)], [.int r8])) rfl ?_
          obtain ⟨h, h2⟩ := Prod.mk.inj (Option.some.inj h)
          obtain ⟨h2, h3⟩ := Prod.mk.inj h2
          subst h
          subst h2
          subst h3
          exact rret rfl ⟨rfl, rfl, _, _, rfl, rfl, rfl, rfl⟩
      · rw [if_neg c4] at h
        refine rjf (a := (20, [(0, .ref 0), (1, .int x1), (2, .int x2), (3, .int x3)], [])) (b := (17, [(0, .ref 0), (1, .int x1), (2, .int x2), (3, .int x3)], [])) rfl rfl c4 ?_
        refine rsn 1 (t := (19, [(0, .ref 0), (1, .int x1), (2, .int x2), (3, .int x3)], [.int ((-2147483648))])) rfl ?_
        obtain ⟨h, h2⟩ := Prod.mk.inj (Option.some.inj h)
        obtain ⟨h2, h3⟩ := Prod.mk.inj h2
        subst h
        subst h2
        subst h3
        exact rret rfl ⟨rfl, rfl, _, _, rfl, rfl, rfl, rfl⟩
noncomputable def f_SC_mended (N : Nat) (S : St) (x1 : Int32) (x2 : Int32) (m : Mm) : Option (Int32 × Mm × St) := (if ((mI m 0 6)) = 0 then some ((-1), m, S) else b1 (f_SC_isGoal N x1) fun r2 => (if r2 = 0 then some ((-1), m, S) else (if x2 < 0 then some ((-1), m, S) else (if x2 ≤ 1 then (jn (fun (s6 : Int32) => b4 (f_SC_worthNow N S x1 s6 m) fun r7 m7 S7 => ckc (ShC S7) (b4 (f_SC_worthNow N S7 x1 0 m7) fun r8 m8 S8 => ckc (ShC S8) (some (((r7 - r8)).toInt32, m8, S8)))) (fun j34 => if x2 = 0 then j34 2 else j34 3)) else some ((-1), m, S)))))
set_option maxRecDepth 20000 in
set_option maxHeartbeats 4000000 in
theorem e_SC_mended {xs : Nat → Int32} {L : Nat} (N : Nat) {d : Nat} (hd : 79 ≤ d) {S : St} (hSh : ShC S) {x1 : Int32} {x2 : Int32} {m : Mm} {r0 : Int32} {mf : Mm} {Sf : St} (h : f_SC_mended N S x1 x2 m = some (r0, mf, Sf)) : Ev xs L true d 133 [.ref 0, .int x1, .int x2] (m, S) (some (.int r0)) (mf, Sf) := by
  obtain ⟨d, rfl⟩ : ∃ e, d = e + 1 := ⟨d - 1, by omega⟩
  refine ev_of (by decide) (Nat.le_of_ble_eq_true rfl) ?_
  rw [f_SC_mended] at h
  show RN xs L true (Ev xs L true d) 133 0 [(0, .ref 0), (1, .int x1), (2, .int x2)] [] (m, S) (some (.int r0)) (mf, Sf)
  refine rsn 1 (t := (1, [(0, .ref 0), (1, .int x1), (2, .int x2)], [.ref 0])) rfl ?_
  refine pgI rfl rfl rfl (hSh.1.k 0 rfl _) ?_
  show RN xs L true (Ev xs L true d) 133 4 [(0, .ref 0), (1, .int x1), (2, .int x2)] [.int ((mI m 0 6))] (m, S) (some (.int r0)) (mf, Sf)
  by_cases c1 : ((mI m 0 6)) = 0
  · rw [if_pos c1] at h
    refine rjt (a := (23, [(0, .ref 0), (1, .int x1), (2, .int x2)], [])) (b := (7, [(0, .ref 0), (1, .int x1), (2, .int x2)], [])) rfl rfl c1 ?_
    refine rsn 1 (t := (24, [(0, .ref 0), (1, .int x1), (2, .int x2)], [.int ((-1))])) rfl ?_
    obtain ⟨h, h2⟩ := Prod.mk.inj (Option.some.inj h)
    obtain ⟨h2, h3⟩ := Prod.mk.inj h2
    subst h
    subst h2
    subst h3
    exact rret rfl ⟨rfl, rfl, _, _, rfl, rfl, rfl, rfl⟩
  · rw [if_neg c1] at h
    refine rjf (a := (23, [(0, .ref 0), (1, .int x1), (2, .int x2)], [])) (b := (7, [(0, .ref 0), (1, .int x1), (2, .int x2)], [])) rfl rfl c1 ?_
    refine rsn 1 (t := (8, [(0, .ref 0), (1, .int x1), (2, .int x2)], [.int x1])) rfl ?_
    obtain ⟨r2, g2, h⟩ := b1_some h
    refine rcS 74 [.int x1] rfl rfl rfl (Nat.le_of_ble_eq_true rfl) rfl (e_SC_isGoal N (by omega) g2) ?_
    show RN xs L true (Ev xs L true d) 133 11 [(0, .ref 0), (1, .int x1), (2, .int x2)] [.int r2] (m, S) (some (.int r0)) (mf, Sf)
    by_cases c3 : r2 = 0
    · rw [if_pos c3] at h
      refine rjt (a := (23, [(0, .ref 0), (1, .int x1), (2, .int x2)], [])) (b := (14, [(0, .ref 0), (1, .int x1), (2, .int x2)], [])) rfl rfl c3 ?_
      refine rsn 1 (t := (24, [(0, .ref 0), (1, .int x1), (2, .int x2)], [.int ((-1))])) rfl ?_
      obtain ⟨h, h2⟩ := Prod.mk.inj (Option.some.inj h)
      obtain ⟨h2, h3⟩ := Prod.mk.inj h2
      subst h
      subst h2
      subst h3
      exact rret rfl ⟨rfl, rfl, _, _, rfl, rfl, rfl, rfl⟩
    · rw [if_neg c3] at h
      refine rjf (a := (23, [(0, .ref 0), (1, .int x1), (2, .int x2)], [])) (b := (14, [(0, .ref 0), (1, .int x1), (2, .int x2)], [])) rfl rfl c3 ?_
      refine rsn 1 (t := (15, [(0, .ref 0), (1, .int x1), (2, .int x2)], [.int x2])) rfl ?_
      by_cases c4 : x2 < 0
      · rw [if_pos c4] at h
        refine rjt (a := (23, [(0, .ref 0), (1, .int x1), (2, .int x2)], [])) (b := (18, [(0, .ref 0), (1, .int x1), (2, .int x2)], [])) rfl rfl c4 ?_
        refine rsn 1 (t := (24, [(0, .ref 0), (1, .int x1), (2, .int x2)], [.int ((-1))])) rfl ?_
        obtain ⟨h, h2⟩ := Prod.mk.inj (Option.some.inj h)
        obtain ⟨h2, h3⟩ := Prod.mk.inj h2
        subst h
        subst h2
        subst h3
        exact rret rfl ⟨rfl, rfl, _, _, rfl, rfl, rfl, rfl⟩
      · rw [if_neg c4] at h
        refine rjf (a := (23, [(0, .ref 0), (1, .int x1), (2, .int x2)], [])) (b := (18, [(0, .ref 0), (1, .int x1), (2, .int x2)], [])) rfl rfl c4 ?_
        refine rsn 2 (t := (20, [(0, .ref 0), (1, .int x1), (2, .int x2)], [.int 1, .int x2])) rfl ?_
        by_cases c5 : x2 ≤ 1
        · rw [if_pos c5] at h
          refine rjt (a := (25, [(0, .ref 0), (1, .int x1), (2, .int x2)], [])) (b := (23, [(0, .ref 0), (1, .int x1), (2, .int x2)], [])) rfl rfl c5 ?_
          refine rsn 1 (t := (26, [(0, .ref 0), (1, .int x1), (2, .int x2)], [.int x2])) rfl ?_
          have jp34 : ∀ (s6 : Int32), (b4 (f_SC_worthNow N S x1 s6 m) fun r7 m7 S7 => ckc (ShC S7) (b4 (f_SC_worthNow N S7 x1 0 m7) fun r8 m8 S8 => ckc (ShC S8) (some (((r7 - r8)).toInt32, m8, S8)))) = some (r0, mf, Sf) → RN xs L true (Ev xs L true d) 133 34 [(0, .ref 0), (1, .int x1)] [.int s6] (m, S) (some (.int r0)) (mf, Sf) := by
            intro s6 h
            try dsimp only at h
            refine rsn 4 (t := (38, [(3, .int s6), (0, .ref 0), (1, .int x1)], [.int s6, .int x1, .ref 0])) rfl ?_
            obtain ⟨r7, m7, S7, g7, h⟩ := b4_some h
            obtain ⟨hSh7, h⟩ := ckc_some h
            refine rcV 97 0 [.int x1, .int s6] rfl rfl rfl (hSh.1.k 0 rfl _) (Nat.le_of_ble_eq_true rfl) rfl (e_SC_worthNow N (by omega) hSh g7) ?_
            show RN xs L true (Ev xs L true d) 133 41 [(3, .int s6), (0, .ref 0), (1, .int x1)] [.long r7] (m7, S7) (some (.int r0)) (mf, Sf)
            refine rsn 3 (t := (44, [(3, .int s6), (0, .ref 0), (1, .int x1)], [.int 0, .int x1, .ref 0, .long r7])) rfl ?_
            obtain ⟨r8, m8, S8, g8, h⟩ := b4_some h
            obtain ⟨hSh8, h⟩ := ckc_some h
            refine rcV 97 0 [.int x1, .int 0] rfl rfl rfl (hSh7.1.k 0 rfl _) (Nat.le_of_ble_eq_true rfl) rfl (e_SC_worthNow N (by omega) hSh7 g8) ?_
            show RN xs L true (Ev xs L true d) 133 47 [(3, .int s6), (0, .ref 0), (1, .int x1)] [.long r8, .long r7] (m8, S8) (some (.int r0)) (mf, Sf)
            refine rsn 2 (t := (49, [(3, .int s6), (0, .ref 0), (1, .int x1)], [.int (((r7 - r8)).toInt32)])) rfl ?_
            obtain ⟨h, h2⟩ := Prod.mk.inj (Option.some.inj h)
            obtain ⟨h2, h3⟩ := Prod.mk.inj h2
            subst h
            subst h2
            subst h3
            exact rret rfl ⟨rfl, rfl, _, _, rfl, rfl, rfl, rfl⟩
          rw [jn] at h
          try dsimp only at h
          by_cases c9 : x2 = 0
          · rw [if_pos c9] at h
            refine rjf (a := (33, [(0, .ref 0), (1, .int x1), (2, .int x2)], [])) (b := (29, [(0, .ref 0), (1, .int x1), (2, .int x2)], [])) rfl rfl (fun q => q c9) ?_
            refine rsn 2 (t := (34, [(0, .ref 0), (1, .int x1), (2, .int x2)], [.int 2])) rfl ?_
            exact rsub [(0, .ref 0), (1, .int x1)] ⟨rfl, ⟨rfl, trivial⟩⟩ ⟨rfl, ⟨rfl, trivial⟩⟩ (jp34 2 h)
          · rw [if_neg c9] at h
            refine rjt (a := (33, [(0, .ref 0), (1, .int x1), (2, .int x2)], [])) (b := (29, [(0, .ref 0), (1, .int x1), (2, .int x2)], [])) rfl rfl c9 ?_
            refine rsn 1 (t := (34, [(0, .ref 0), (1, .int x1), (2, .int x2)], [.int 3])) rfl ?_
            exact rsub [(0, .ref 0), (1, .int x1)] ⟨rfl, ⟨rfl, trivial⟩⟩ ⟨rfl, ⟨rfl, trivial⟩⟩ (jp34 3 h)
        · rw [if_neg c5] at h
          refine rjf (a := (25, [(0, .ref 0), (1, .int x1), (2, .int x2)], [])) (b := (23, [(0, .ref 0), (1, .int x1), (2, .int x2)], [])) rfl rfl c5 ?_
          refine rsn 1 (t := (24, [(0, .ref 0), (1, .int x1), (2, .int x2)], [.int ((-1))])) rfl ?_
          obtain ⟨h, h2⟩ := Prod.mk.inj (Option.some.inj h)
          obtain ⟨h2, h3⟩ := Prod.mk.inj h2
          subst h
          subst h2
          subst h3
          exact rret rfl ⟨rfl, rfl, _, _, rfl, rfl, rfl, rfl⟩
noncomputable def f_SC_judged (N : Nat) (S : St) (x1 : Int32) (x2 : Int32) (x3 : Int32) (m : Mm) : Option (Int32 × Mm × St) := b1 (f_SC_isGoal N x1) fun r1 => (if r1 = 0 then some ((-2147483648), m, S) else b1 (f_SC_judge N S x2 x3 m) fun r3 => (if r3 = ((-1)) then b4 (f_Book_ends N S x1 ((mI m 10 3)) m) fun r5 m5 S5 => ckc (ShC S5) (ck (r5 ∈ eKl) (b1 (f_Rows_stateAfter N S5 ((mJ m5 0 7)) x2 x3 m5) fun r6 => b2 (f_Ends_value N S5 r5 r6 m5) fun r7 m7 => some (r7.toInt32, m7, S5))) else some ((-2147483648), m, S)))
set_option maxRecDepth 20000 in
set_option maxHeartbeats 4000000 in
theorem e_SC_judged {xs : Nat → Int32} {L : Nat} (N : Nat) {d : Nat} (hd : 41 ≤ d) {S : St} (hSh : ShC S) {x1 : Int32} {x2 : Int32} {x3 : Int32} {m : Mm} {r0 : Int32} {mf : Mm} {Sf : St} (h : f_SC_judged N S x1 x2 x3 m = some (r0, mf, Sf)) : Ev xs L true d 138 [.ref 0, .int x1, .int x2, .int x3] (m, S) (some (.int r0)) (mf, Sf) := by
  obtain ⟨d, rfl⟩ : ∃ e, d = e + 1 := ⟨d - 1, by omega⟩
  refine ev_of (by decide) (Nat.le_of_ble_eq_true rfl) ?_
  rw [f_SC_judged] at h
  show RN xs L true (Ev xs L true d) 138 0 [(0, .ref 0), (1, .int x1), (2, .int x2), (3, .int x3)] [] (m, S) (some (.int r0)) (mf, Sf)
  refine rsn 1 (t := (1, [(0, .ref 0), (1, .int x1), (2, .int x2), (3, .int x3)], [.int x1])) rfl ?_
  obtain ⟨r1, g1, h⟩ := b1_some h
  refine rcS 74 [.int x1] rfl rfl rfl (Nat.le_of_ble_eq_true rfl) rfl (e_SC_isGoal N (by omega) g1) ?_
  show RN xs L true (Ev xs L true d) 138 4 [(0, .ref 0), (1, .int x1), (2, .int x2), (3, .int x3)] [.int r1] (m, S) (some (.int r0)) (mf, Sf)
  by_cases c2 : r1 = 0
  · rw [if_pos c2] at h
    refine rjt (a := (17, [(0, .ref 0), (1, .int x1), (2, .int x2), (3, .int x3)], [])) (b := (7, [(0, .ref 0), (1, .int x1), (2, .int x2), (3, .int x3)], [])) rfl rfl c2 ?_
    refine rsn 1 (t := (19, [(0, .ref 0), (1, .int x1), (2, .int x2), (3, .int x3)], [.int ((-2147483648))])) rfl ?_
    obtain ⟨h, h2⟩ := Prod.mk.inj (Option.some.inj h)
    obtain ⟨h2, h3⟩ := Prod.mk.inj h2
    subst h
    subst h2
    subst h3
    exact rret rfl ⟨rfl, rfl, _, _, rfl, rfl, rfl, rfl⟩
  · rw [if_neg c2] at h
    refine rjf (a := (17, [(0, .ref 0), (1, .int x1), (2, .int x2), (3, .int x3)], [])) (b := (7, [(0, .ref 0), (1, .int x1), (2, .int x2), (3, .int x3)], [])) rfl rfl c2 ?_
    refine rsn 3 (t := (10, [(0, .ref 0), (1, .int x1), (2, .int x2), (3, .int x3)], [.int x3, .int x2, .ref 0])) rfl ?_
    obtain ⟨r3, g3, h⟩ := b1_some h
    refine rcV 136 0 [.int x2, .int x3] rfl rfl rfl (hSh.1.k 0 rfl _) (Nat.le_of_ble_eq_true rfl) rfl (e_SC_judge N (by omega) hSh g3) ?_
    show RN xs L true (Ev xs L true d) 138 13 [(0, .ref 0), (1, .int x1), (2, .int x2), (3, .int x3)] [.int r3] (m, S) (some (.int r0)) (mf, Sf)
    refine rsn 1 (t := (14, [(0, .ref 0), (1, .int x1), (2, .int x2), (3, .int x3)], [.int ((-1)), .int r3])) rfl ?_
    by_cases c4 : r3 = ((-1))
    · rw [if_pos c4] at h
      refine rjt (a := (20, [(0, .ref 0), (1, .int x1), (2, .int x2), (3, .int x3)], [])) (b := (17, [(0, .ref 0), (1, .int x1), (2, .int x2), (3, .int x3)], [])) rfl rfl c4 ?_
      refine rsn 1 (t := (21, [(0, .ref 0), (1, .int x1), (2, .int x2), (3, .int x3)], [.ref 0])) rfl ?_
      refine rgR rfl rfl rfl (hSh.1.k 0 rfl _) (hSh.1.r 89 rfl _) ?_
      refine rsn 2 (t := (26, [(0, .ref 0), (1, .int x1), (2, .int x2), (3, .int x3)], [.ref 0, .int x1, .ref 17])) rfl ?_
      refine rgR rfl rfl rfl (hSh.1.k 0 rfl _) (hSh.1.r 88 rfl _) ?_
      refine pgI rfl rfl rfl (hSh.1.k 10 rfl _) ?_
      show RN xs L true (Ev xs L true d) 138 32 [(0, .ref 0), (1, .int x1), (2, .int x2), (3, .int x3)] [.int ((mI m 10 3)), .int x1, .ref 17] (m, S) (some (.int r0)) (mf, Sf)
      obtain ⟨r5, m5, S5, g5, h⟩ := b4_some h
      obtain ⟨hSh5, h⟩ := ckc_some h
      refine rcV 76 17 [.int x1, .int ((mI m 10 3))] rfl rfl rfl (hSh.1.k 17 rfl _) (Nat.le_of_ble_eq_true rfl) rfl (e_Book_ends N (by omega) hSh g5) ?_
      obtain ⟨c5, h⟩ := ck_some h
      show RN xs L true (Ev xs L true d) 138 35 [(0, .ref 0), (1, .int x1), (2, .int x2), (3, .int x3)] [.ref r5] (m5, S5) (some (.int r0)) (mf, Sf)
      refine rsn 1 (t := (36, [(0, .ref 0), (1, .int x1), (2, .int x2), (3, .int x3)], [.ref 0, .ref r5])) rfl ?_
      refine rgR rfl rfl rfl (hSh5.1.k 0 rfl _) (hSh5.1.r 89 rfl _) ?_
      refine rgR rfl rfl rfl (hSh5.1.k 17 rfl _) (hSh5.1.r 94 rfl _) ?_
      refine rsn 1 (t := (43, [(0, .ref 0), (1, .int x1), (2, .int x2), (3, .int x3)], [.ref 0, .ref 30, .ref r5])) rfl ?_
      refine pgJ rfl rfl rfl (hSh5.1.k 0 rfl _) ?_
      show RN xs L true (Ev xs L true d) 138 46 [(0, .ref 0), (1, .int x1), (2, .int x2), (3, .int x3)] [.long ((mJ m5 0 7)), .ref 30, .ref r5] (m5, S5) (some (.int r0)) (mf, Sf)
      refine rsn 2 (t := (48, [(0, .ref 0), (1, .int x1), (2, .int x2), (3, .int x3)], [.int x3, .int x2, .long ((mJ m5 0 7)), .ref 30, .ref r5])) rfl ?_
      obtain ⟨r6, g6, h⟩ := b1_some h
      refine rcV 139 30 [.long ((mJ m5 0 7)), .int x2, .int x3] rfl rfl rfl (hSh5.1.k 30 rfl _) (Nat.le_of_ble_eq_true rfl) rfl (e_Rows_stateAfter N (by omega) hSh5 g6) ?_
      show RN xs L true (Ev xs L true d) 138 51 [(0, .ref 0), (1, .int x1), (2, .int x2), (3, .int x3)] [.long r6, .ref r5] (m5, S5) (some (.int r0)) (mf, Sf)
      obtain ⟨r7, m7, g7, h⟩ := b2_some h
      refine rcV 80 r5 [.long r6] rfl rfl rfl (hSh5.kE c5 _) (Nat.le_of_ble_eq_true rfl) rfl (e_Ends_value N (by omega) hSh5 c5 g7) ?_
      show RN xs L true (Ev xs L true d) 138 54 [(0, .ref 0), (1, .int x1), (2, .int x2), (3, .int x3)] [.long r7] (m7, S5) (some (.int r0)) (mf, Sf)
      refine rsn 1 (t := (55, [(0, .ref 0), (1, .int x1), (2, .int x2), (3, .int x3)], [.int r7.toInt32])) rfl ?_
      obtain ⟨h, h2⟩ := Prod.mk.inj (Option.some.inj h)
      obtain ⟨h2, h3⟩ := Prod.mk.inj h2
      subst h
      subst h2
      subst h3
      exact rret rfl ⟨rfl, rfl, _, _, rfl, rfl, rfl, rfl⟩
    · rw [if_neg c4] at h
      refine rjf (a := (20, [(0, .ref 0), (1, .int x1), (2, .int x2), (3, .int x3)], [])) (b := (17, [(0, .ref 0), (1, .int x1), (2, .int x2), (3, .int x3)], [])) rfl rfl c4 ?_
      refine rsn 1 (t := (19, [(0, .ref 0), (1, .int x1), (2, .int x2), (3, .int x3)], [.int ((-2147483648))])) rfl ?_
      obtain ⟨h, h2⟩ := Prod.mk.inj (Option.some.inj h)
      obtain ⟨h2, h3⟩ := Prod.mk.inj h2
      subst h
      subst h2
      subst h3
      exact rret rfl ⟨rfl, rfl, _, _, rfl, rfl, rfl, rfl⟩
