/-! The class's methods as functions (printed by wip/whole/gen_fun.py). -/
def f_SC_addBytes_L3 (N : Nat) (S : St) (x1 : Int32) (k3 : Int32 → Mm → Option (Mm)) : Nat → Int32 → Mm → Option (Mm)
  | 0, _, _ => none
  | n3 + 1, x2, m => (if x2 < 0 then k3 x2 m else (if 400 ≤ ((mI m 0 1)) then f_SC_addBytes_L3 N S x1 k3 n3 ((x2 + (-8))) m else ck (ix ((mI m 0 1)) 400) (f_SC_addBytes_L3 N S x1 k3 n3 ((x2 + (-8))) ((vI (vX m 1 (((mI m 0 1)).toNatClampNeg) ((((ius x1 x2)).toInt8.toInt32).toInt8.toInt32)) 0 1 ((((mI m 0 1)) + 1)))))))
def f_SC_addBytes (N : Nat) (S : St) (x1 : Int32) (m : Mm) : Option (Mm) := f_SC_addBytes_L3 N S x1 (fun (z4_2 : Int32) (m4 : Mm) => some m4) N 24 m
set_option maxRecDepth 20000 in
set_option maxHeartbeats 4000000 in
theorem e_SC_addBytes {xs : Nat → Int32} {L : Nat} {al : Bool} (N : Nat) {d : Nat} (hd : 1 ≤ d) {S : St} (hSh : ShC S) {x1 : Int32} {m : Mm} {mf : Mm} (h : f_SC_addBytes N S x1 m = some mf) : Ev xs L al d 14 [.ref 0, .int x1] (m, S) none (mf, S) := by
  obtain ⟨d, rfl⟩ : ∃ e, d = e + 1 := ⟨d - 1, by omega⟩
  refine ev_of (by decide) (Nat.le_of_ble_eq_true rfl) ?_
  rw [f_SC_addBytes] at h
  show RN xs L al (Ev xs L al d) 14 0 [(0, .ref 0), (1, .int x1)] [] (m, S) none (mf, S)
  refine rsn 2 (t := (3, [(2, .int 24), (0, .ref 0), (1, .int x1)], [])) rfl ?_
  have ex3 : ∀ (z4_2 : Int32) (m4 : Mm), (some m4) = some mf → RN xs L al (Ev xs L al d) 14 46 [] [] (m4, S) none (mf, S) := by
    intro z4_2 m4 h
    try dsimp only at h
    have h := Option.some.inj h
    subst h
    exact rret rfl ⟨rfl, rfl, rfl, rfl, rfl⟩
  have lp3 : ∀ (n : Nat) (y5_2 : Int32) (m5 : Mm), (f_SC_addBytes_L3 N S x1 (fun (z4_2 : Int32) (m4 : Mm) => some m4) n y5_2 m5) = some mf → RN xs L al (Ev xs L al d) 14 3 [(0, .ref 0), (1, .int x1), (2, .int y5_2)] [] (m5, S) none (mf, S) := by
    intro n
    induction n with
    | zero => intro y5_2 m5 h; exact absurd h (by simp [f_SC_addBytes_L3])
    | succ n3 ih3 =>
      intro y5_2 m5 h
      try dsimp only at h
      rw [f_SC_addBytes_L3] at h
      try dsimp only at h
      refine rsn 1 (t := (4, [(0, .ref 0), (1, .int x1), (2, .int y5_2)], [.int y5_2])) rfl ?_
      by_cases c6 : y5_2 < 0
      · rw [if_pos c6] at h
        refine rjt (a := (46, [(0, .ref 0), (1, .int x1), (2, .int y5_2)], [])) (b := (7, [(0, .ref 0), (1, .int x1), (2, .int y5_2)], [])) rfl rfl c6 ?_
        exact rsub [] trivial trivial (ex3 y5_2 m5 h)
      · rw [if_neg c6] at h
        refine rjf (a := (46, [(0, .ref 0), (1, .int x1), (2, .int y5_2)], [])) (b := (7, [(0, .ref 0), (1, .int x1), (2, .int y5_2)], [])) rfl rfl c6 ?_
        refine rsn 1 (t := (8, [(0, .ref 0), (1, .int x1), (2, .int y5_2)], [.ref 0])) rfl ?_
        refine pgI rfl rfl rfl (hSh.1.k 0 rfl _) ?_
        show RN xs L al (Ev xs L al d) 14 11 [(0, .ref 0), (1, .int x1), (2, .int y5_2)] [.int ((mI m5 0 1))] (m5, S) none (mf, S)
        refine rsn 1 (t := (14, [(0, .ref 0), (1, .int x1), (2, .int y5_2)], [.int 400, .int ((mI m5 0 1))])) rfl ?_
        by_cases c7 : 400 ≤ ((mI m5 0 1))
        · rw [if_pos c7] at h
          refine rjt (a := (40, [(0, .ref 0), (1, .int x1), (2, .int y5_2)], [])) (b := (17, [(0, .ref 0), (1, .int x1), (2, .int y5_2)], [])) rfl rfl c7 ?_
          refine rsn 2 (t := (3, [(2, .int ((y5_2 + (-8)))), (0, .ref 0), (1, .int x1)], [])) rfl ?_
          exact rsub [(0, .ref 0), (1, .int x1), (2, .int ((y5_2 + (-8))))] ⟨rfl, ⟨rfl, ⟨rfl, trivial⟩⟩⟩ ⟨rfl, ⟨rfl, ⟨rfl, trivial⟩⟩⟩ (ih3 ((y5_2 + (-8))) m5 h)
        · rw [if_neg c7] at h
          refine rjf (a := (40, [(0, .ref 0), (1, .int x1), (2, .int y5_2)], [])) (b := (17, [(0, .ref 0), (1, .int x1), (2, .int y5_2)], [])) rfl rfl c7 ?_
          refine rsn 1 (t := (18, [(0, .ref 0), (1, .int x1), (2, .int y5_2)], [.ref 0])) rfl ?_
          refine rgR rfl rfl rfl (hSh.1.k 0 rfl _) (hSh.1.r 85 rfl _) ?_
          refine rsn 1 (t := (22, [(0, .ref 0), (1, .int x1), (2, .int y5_2)], [.ref 0, .ref 1])) rfl ?_
          refine pgI rfl rfl rfl (hSh.1.k 0 rfl _) ?_
          show RN xs L al (Ev xs L al d) 14 25 [(0, .ref 0), (1, .int x1), (2, .int y5_2)] [.int ((mI m5 0 1)), .ref 1] (m5, S) none (mf, S)
          refine rsn 4 (t := (29, [(0, .ref 0), (1, .int x1), (2, .int y5_2)], [.int (((ius x1 y5_2)).toInt8.toInt32), .int ((mI m5 0 1)), .ref 1])) rfl ?_
          obtain ⟨c8, h⟩ := ck_some h
          refine psB rfl (hSh.1.k 1 rfl _) (hSh.1.l 0 rfl _) c8 ?_
          refine rsn 2 (t := (32, [(0, .ref 0), (1, .int x1), (2, .int y5_2)], [.ref 0, .ref 0])) rfl ?_
          refine pgI rfl rfl rfl (hSh.1.k 0 rfl _) ?_
          show RN xs L al (Ev xs L al d) 14 35 [(0, .ref 0), (1, .int x1), (2, .int y5_2)] [.int ((mI m5 0 1)), .ref 0] ((vX m5 1 (((mI m5 0 1)).toNatClampNeg) ((((ius x1 y5_2)).toInt8.toInt32).toInt8.toInt32)), S) none (mf, S)
          refine rsn 2 (t := (37, [(0, .ref 0), (1, .int x1), (2, .int y5_2)], [.int ((((mI m5 0 1)) + 1)), .ref 0])) rfl ?_
          refine ppI rfl rfl rfl rfl (hSh.1.k 0 rfl _) ?_
          refine rsn 2 (t := (3, [(2, .int ((y5_2 + (-8)))), (0, .ref 0), (1, .int x1)], [])) rfl ?_
          exact rsub [(0, .ref 0), (1, .int x1), (2, .int ((y5_2 + (-8))))] ⟨rfl, ⟨rfl, ⟨rfl, trivial⟩⟩⟩ ⟨rfl, ⟨rfl, ⟨rfl, trivial⟩⟩⟩ (ih3 ((y5_2 + (-8))) ((vI (vX m5 1 (((mI m5 0 1)).toNatClampNeg) ((((ius x1 y5_2)).toInt8.toInt32).toInt8.toInt32)) 0 1 ((((mI m5 0 1)) + 1)))) h)
  exact rsub [(0, .ref 0), (1, .int x1), (2, .int 24)] ⟨rfl, ⟨rfl, ⟨rfl, trivial⟩⟩⟩ ⟨rfl, ⟨rfl, ⟨rfl, trivial⟩⟩⟩ (lp3 N 24 m h)
def f_SC_feed (N : Nat) (S : St) (x1 : Int32) (x2 : Int32) (x3 : Int32) (x4 : Int32) (x5 : Int32) (m : Mm) : Option (Int32 × Mm) := (if ((((mI m 0 1)) + 20)) ≤ 400 then b3 (f_SC_addBytes N S x1 m) fun m2 => b3 (f_SC_addBytes N S x2 m2) fun m3 => b3 (f_SC_addBytes N S x3 m3) fun m4 => b3 (f_SC_addBytes N S x4 m4) fun m5 => b3 (f_SC_addBytes N S x5 m5) fun m6 => some ((mI m6 0 1), m6) else some ((-1), m))
set_option maxRecDepth 20000 in
set_option maxHeartbeats 4000000 in
theorem e_SC_feed {xs : Nat → Int32} {L : Nat} {al : Bool} (N : Nat) {d : Nat} (hd : 2 ≤ d) {S : St} (hSh : ShC S) {x1 : Int32} {x2 : Int32} {x3 : Int32} {x4 : Int32} {x5 : Int32} {m : Mm} {r0 : Int32} {mf : Mm} (h : f_SC_feed N S x1 x2 x3 x4 x5 m = some (r0, mf)) : Ev xs L al d 13 [.ref 0, .int x1, .int x2, .int x3, .int x4, .int x5] (m, S) (some (.int r0)) (mf, S) := by
  obtain ⟨d, rfl⟩ : ∃ e, d = e + 1 := ⟨d - 1, by omega⟩
  refine ev_of (by decide) (Nat.le_of_ble_eq_true rfl) ?_
  rw [f_SC_feed] at h
  show RN xs L al (Ev xs L al d) 13 0 [(0, .ref 0), (1, .int x1), (2, .int x2), (3, .int x3), (4, .int x4), (5, .int x5)] [] (m, S) (some (.int r0)) (mf, S)
  refine rsn 1 (t := (1, [(0, .ref 0), (1, .int x1), (2, .int x2), (3, .int x3), (4, .int x4), (5, .int x5)], [.ref 0])) rfl ?_
  refine pgI rfl rfl rfl (hSh.1.k 0 rfl _) ?_
  show RN xs L al (Ev xs L al d) 13 4 [(0, .ref 0), (1, .int x1), (2, .int x2), (3, .int x3), (4, .int x4), (5, .int x5)] [.int ((mI m 0 1))] (m, S) (some (.int r0)) (mf, S)
  refine rsn 3 (t := (10, [(0, .ref 0), (1, .int x1), (2, .int x2), (3, .int x3), (4, .int x4), (5, .int x5)], [.int 400, .int ((((mI m 0 1)) + 20))])) rfl ?_
  by_cases c1 : ((((mI m 0 1)) + 20)) ≤ 400
  · rw [if_pos c1] at h
    refine rjt (a := (15, [(0, .ref 0), (1, .int x1), (2, .int x2), (3, .int x3), (4, .int x4), (5, .int x5)], [])) (b := (13, [(0, .ref 0), (1, .int x1), (2, .int x2), (3, .int x3), (4, .int x4), (5, .int x5)], [])) rfl rfl c1 ?_
    refine rsn 2 (t := (17, [(0, .ref 0), (1, .int x1), (2, .int x2), (3, .int x3), (4, .int x4), (5, .int x5)], [.int x1, .ref 0])) rfl ?_
    obtain ⟨m2, g2, h⟩ := b3_some h
    refine rcV 14 0 [.int x1] rfl rfl rfl (hSh.1.k 0 rfl _) (Nat.le_of_ble_eq_true rfl) rfl (e_SC_addBytes N (by omega) hSh g2) ?_
    show RN xs L al (Ev xs L al d) 13 20 [(0, .ref 0), (1, .int x1), (2, .int x2), (3, .int x3), (4, .int x4), (5, .int x5)] [] (m2, S) (some (.int r0)) (mf, S)
    refine rsn 2 (t := (22, [(0, .ref 0), (1, .int x1), (2, .int x2), (3, .int x3), (4, .int x4), (5, .int x5)], [.int x2, .ref 0])) rfl ?_
    obtain ⟨m3, g3, h⟩ := b3_some h
    refine rcV 14 0 [.int x2] rfl rfl rfl (hSh.1.k 0 rfl _) (Nat.le_of_ble_eq_true rfl) rfl (e_SC_addBytes N (by omega) hSh g3) ?_
    show RN xs L al (Ev xs L al d) 13 25 [(0, .ref 0), (1, .int x1), (2, .int x2), (3, .int x3), (4, .int x4), (5, .int x5)] [] (m3, S) (some (.int r0)) (mf, S)
    refine rsn 2 (t := (27, [(0, .ref 0), (1, .int x1), (2, .int x2), (3, .int x3), (4, .int x4), (5, .int x5)], [.int x3, .ref 0])) rfl ?_
    obtain ⟨m4, g4, h⟩ := b3_some h
    refine rcV 14 0 [.int x3] rfl rfl rfl (hSh.1.k 0 rfl _) (Nat.le_of_ble_eq_true rfl) rfl (e_SC_addBytes N (by omega) hSh g4) ?_
    show RN xs L al (Ev xs L al d) 13 30 [(0, .ref 0), (1, .int x1), (2, .int x2), (3, .int x3), (4, .int x4), (5, .int x5)] [] (m4, S) (some (.int r0)) (mf, S)
    refine rsn 2 (t := (33, [(0, .ref 0), (1, .int x1), (2, .int x2), (3, .int x3), (4, .int x4), (5, .int x5)], [.int x4, .ref 0])) rfl ?_
    obtain ⟨m5, g5, h⟩ := b3_some h
    refine rcV 14 0 [.int x4] rfl rfl rfl (hSh.1.k 0 rfl _) (Nat.le_of_ble_eq_true rfl) rfl (e_SC_addBytes N (by omega) hSh g5) ?_
    show RN xs L al (Ev xs L al d) 13 36 [(0, .ref 0), (1, .int x1), (2, .int x2), (3, .int x3), (4, .int x4), (5, .int x5)] [] (m5, S) (some (.int r0)) (mf, S)
    refine rsn 2 (t := (39, [(0, .ref 0), (1, .int x1), (2, .int x2), (3, .int x3), (4, .int x4), (5, .int x5)], [.int x5, .ref 0])) rfl ?_
    obtain ⟨m6, g6, h⟩ := b3_some h
    refine rcV 14 0 [.int x5] rfl rfl rfl (hSh.1.k 0 rfl _) (Nat.le_of_ble_eq_true rfl) rfl (e_SC_addBytes N (by omega) hSh g6) ?_
    show RN xs L al (Ev xs L al d) 13 42 [(0, .ref 0), (1, .int x1), (2, .int x2), (3, .int x3), (4, .int x4), (5, .int x5)] [] (m6, S) (some (.int r0)) (mf, S)
    refine rsn 1 (t := (43, [(0, .ref 0), (1, .int x1), (2, .int x2), (3, .int x3), (4, .int x4), (5, .int x5)], [.ref 0])) rfl ?_
    refine pgI rfl rfl rfl (hSh.1.k 0 rfl _) ?_
    show RN xs L al (Ev xs L al d) 13 46 [(0, .ref 0), (1, .int x1), (2, .int x2), (3, .int x3), (4, .int x4), (5, .int x5)] [.int ((mI m6 0 1))] (m6, S) (some (.int r0)) (mf, S)
    obtain ⟨h, h2⟩ := Prod.mk.inj (Option.some.inj h)
    subst h
    subst h2
    exact rret rfl ⟨rfl, rfl, _, _, rfl, rfl, rfl, rfl⟩
  · rw [if_neg c1] at h
    refine rjf (a := (15, [(0, .ref 0), (1, .int x1), (2, .int x2), (3, .int x3), (4, .int x4), (5, .int x5)], [])) (b := (13, [(0, .ref 0), (1, .int x1), (2, .int x2), (3, .int x3), (4, .int x4), (5, .int x5)], [])) rfl rfl c1 ?_
    refine rsn 1 (t := (14, [(0, .ref 0), (1, .int x1), (2, .int x2), (3, .int x3), (4, .int x4), (5, .int x5)], [.int ((-1))])) rfl ?_
    obtain ⟨h, h2⟩ := Prod.mk.inj (Option.some.inj h)
    subst h
    subst h2
    exact rret rfl ⟨rfl, rfl, _, _, rfl, rfl, rfl, rfl⟩
def f_SC_end (N : Nat) (S : St) (x1 : Int32) (m : Mm) : Option (Int32 × Mm) := (if x1 < 0 then some (0, m) else (if x1 ≤ ((mI m 0 1)) then some (1, (vI m 0 1 x1)) else some (0, m)))
set_option maxRecDepth 20000 in
set_option maxHeartbeats 4000000 in
theorem e_SC_end {xs : Nat → Int32} {L : Nat} {al : Bool} (N : Nat) {d : Nat} (hd : 1 ≤ d) {S : St} (hSh : ShC S) {x1 : Int32} {m : Mm} {r0 : Int32} {mf : Mm} (h : f_SC_end N S x1 m = some (r0, mf)) : Ev xs L al d 15 [.ref 0, .int x1] (m, S) (some (.int r0)) (mf, S) := by
  obtain ⟨d, rfl⟩ : ∃ e, d = e + 1 := ⟨d - 1, by omega⟩
  refine ev_of (by decide) (Nat.le_of_ble_eq_true rfl) ?_
  rw [f_SC_end] at h
  show RN xs L al (Ev xs L al d) 15 0 [(0, .ref 0), (1, .int x1)] [] (m, S) (some (.int r0)) (mf, S)
  refine rsn 1 (t := (1, [(0, .ref 0), (1, .int x1)], [.int x1])) rfl ?_
  by_cases c1 : x1 < 0
  · rw [if_pos c1] at h
    refine rjt (a := (12, [(0, .ref 0), (1, .int x1)], [])) (b := (4, [(0, .ref 0), (1, .int x1)], [])) rfl rfl c1 ?_
    refine rsn 1 (t := (13, [(0, .ref 0), (1, .int x1)], [.int 0])) rfl ?_
    obtain ⟨h, h2⟩ := Prod.mk.inj (Option.some.inj h)
    subst h
    subst h2
    exact rret rfl ⟨rfl, rfl, _, _, rfl, rfl, rfl, rfl⟩
  · rw [if_neg c1] at h
    refine rjf (a := (12, [(0, .ref 0), (1, .int x1)], [])) (b := (4, [(0, .ref 0), (1, .int x1)], [])) rfl rfl c1 ?_
    refine rsn 2 (t := (6, [(0, .ref 0), (1, .int x1)], [.ref 0, .int x1])) rfl ?_
    refine pgI rfl rfl rfl (hSh.1.k 0 rfl _) ?_
    show RN xs L al (Ev xs L al d) 15 9 [(0, .ref 0), (1, .int x1)] [.int ((mI m 0 1)), .int x1] (m, S) (some (.int r0)) (mf, S)
    by_cases c2 : x1 ≤ ((mI m 0 1))
    · rw [if_pos c2] at h
      refine rjt (a := (14, [(0, .ref 0), (1, .int x1)], [])) (b := (12, [(0, .ref 0), (1, .int x1)], [])) rfl rfl c2 ?_
      refine rsn 2 (t := (16, [(0, .ref 0), (1, .int x1)], [.int x1, .ref 0])) rfl ?_
      refine ppI rfl rfl rfl rfl (hSh.1.k 0 rfl _) ?_
      refine rsn 1 (t := (20, [(0, .ref 0), (1, .int x1)], [.int 1])) rfl ?_
      obtain ⟨h, h2⟩ := Prod.mk.inj (Option.some.inj h)
      subst h
      subst h2
      exact rret rfl ⟨rfl, rfl, _, _, rfl, rfl, rfl, rfl⟩
    · rw [if_neg c2] at h
      refine rjf (a := (14, [(0, .ref 0), (1, .int x1)], [])) (b := (12, [(0, .ref 0), (1, .int x1)], [])) rfl rfl c2 ?_
      refine rsn 1 (t := (13, [(0, .ref 0), (1, .int x1)], [.int 0])) rfl ?_
      obtain ⟨h, h2⟩ := Prod.mk.inj (Option.some.inj h)
      subst h
      subst h2
      exact rret rfl ⟨rfl, rfl, _, _, rfl, rfl, rfl, rfl⟩
def f_Will_clear (N : Nat) (S : St) (x0 : Nat) (m : Mm) : Option (Mm) := some (vI (vI (vI (vI (vI (vI (vI m x0 0 0) x0 1 0) x0 2 0) x0 3 0) x0 4 0) x0 5 0) x0 6 0)
set_option maxRecDepth 20000 in
set_option maxHeartbeats 4000000 in
theorem e_Will_clear {xs : Nat → Int32} {L : Nat} {al : Bool} (N : Nat) {d : Nat} (hd : 1 ≤ d) {S : St} (hSh : ShC S) {x0 : Nat} (hx0 : x0 ∈ wKl) {m : Mm} {mf : Mm} (h : f_Will_clear N S x0 m = some mf) : Ev xs L al d 18 [.ref x0] (m, S) none (mf, S) := by
  obtain ⟨d, rfl⟩ : ∃ e, d = e + 1 := ⟨d - 1, by omega⟩
  refine ev_of (by decide) (Nat.le_of_ble_eq_true rfl) ?_
  rw [f_Will_clear] at h
  show RN xs L al (Ev xs L al d) 18 0 [(0, .ref x0)] [] (m, S) none (mf, S)
  refine rsn 2 (t := (2, [(0, .ref x0)], [.int 0, .ref x0])) rfl ?_
  refine ppI rfl rfl rfl rfl (hSh.kW hx0 _) ?_
  refine rsn 2 (t := (7, [(0, .ref x0)], [.int 0, .ref x0])) rfl ?_
  refine ppI rfl rfl rfl rfl (hSh.kW hx0 _) ?_
  refine rsn 2 (t := (12, [(0, .ref x0)], [.int 0, .ref x0])) rfl ?_
  refine ppI rfl rfl rfl rfl (hSh.kW hx0 _) ?_
  refine rsn 2 (t := (17, [(0, .ref x0)], [.int 0, .ref x0])) rfl ?_
  refine ppI rfl rfl rfl rfl (hSh.kW hx0 _) ?_
  refine rsn 2 (t := (22, [(0, .ref x0)], [.int 0, .ref x0])) rfl ?_
  refine ppZ rfl rfl rfl rfl (hSh.kW hx0 _) (Or.inl rfl) ?_
  refine rsn 2 (t := (27, [(0, .ref x0)], [.int 0, .ref x0])) rfl ?_
  refine ppZ rfl rfl rfl rfl (hSh.kW hx0 _) (Or.inl rfl) ?_
  refine rsn 2 (t := (32, [(0, .ref x0)], [.int 0, .ref x0])) rfl ?_
  refine ppI rfl rfl rfl rfl (hSh.kW hx0 _) ?_
  have h := Option.some.inj h
  subst h
  exact rret rfl ⟨rfl, rfl, rfl, rfl, rfl⟩
def f_Reader_isLetterAt (N : Nat) (S : St) (x1 : Int32) (m : Mm) : Option (Int32) := (if x1 < 0 then some 0 else (if ((mI m 2 1)) ≤ x1 then some 0 else ck (ix x1 400) ((if ((mX m 1 x1.toNatClampNeg)) < 97 then some 0 else ck (ix x1 400) ((if 122 < ((mX m 1 x1.toNatClampNeg)) then some 0 else some 1))))))
set_option maxRecDepth 20000 in
set_option maxHeartbeats 4000000 in
theorem e_Reader_isLetterAt {xs : Nat → Int32} {L : Nat} {al : Bool} (N : Nat) {d : Nat} (hd : 1 ≤ d) {S : St} (hSh : ShC S) {x1 : Int32} {m : Mm} {r0 : Int32} (h : f_Reader_isLetterAt N S x1 m = some r0) : Ev xs L al d 20 [.ref 2, .int x1] (m, S) (some (.int r0)) (m, S) := by
  obtain ⟨d, rfl⟩ : ∃ e, d = e + 1 := ⟨d - 1, by omega⟩
  refine ev_of (by decide) (Nat.le_of_ble_eq_true rfl) ?_
  rw [f_Reader_isLetterAt] at h
  show RN xs L al (Ev xs L al d) 20 0 [(0, .ref 2), (1, .int x1)] [] (m, S) (some (.int r0)) (m, S)
  refine rsn 1 (t := (1, [(0, .ref 2), (1, .int x1)], [.int x1])) rfl ?_
  by_cases c1 : x1 < 0
  · rw [if_pos c1] at h
    refine rjt (a := (38, [(0, .ref 2), (1, .int x1)], [])) (b := (4, [(0, .ref 2), (1, .int x1)], [])) rfl rfl c1 ?_
    refine rsn 1 (t := (39, [(0, .ref 2), (1, .int x1)], [.int 0])) rfl ?_
    have h := Option.some.inj h
    subst h
    exact rret rfl ⟨rfl, rfl, _, _, rfl, rfl, rfl, rfl⟩
  · rw [if_neg c1] at h
    refine rjf (a := (38, [(0, .ref 2), (1, .int x1)], [])) (b := (4, [(0, .ref 2), (1, .int x1)], [])) rfl rfl c1 ?_
    refine rsn 2 (t := (6, [(0, .ref 2), (1, .int x1)], [.ref 2, .int x1])) rfl ?_
    refine pgI rfl rfl rfl (hSh.1.k 2 rfl _) ?_
    show RN xs L al (Ev xs L al d) 20 9 [(0, .ref 2), (1, .int x1)] [.int ((mI m 2 1)), .int x1] (m, S) (some (.int r0)) (m, S)
    by_cases c2 : ((mI m 2 1)) ≤ x1
    · rw [if_pos c2] at h
      refine rjt (a := (38, [(0, .ref 2), (1, .int x1)], [])) (b := (12, [(0, .ref 2), (1, .int x1)], [])) rfl rfl c2 ?_
      refine rsn 1 (t := (39, [(0, .ref 2), (1, .int x1)], [.int 0])) rfl ?_
      have h := Option.some.inj h
      subst h
      exact rret rfl ⟨rfl, rfl, _, _, rfl, rfl, rfl, rfl⟩
    · rw [if_neg c2] at h
      refine rjf (a := (38, [(0, .ref 2), (1, .int x1)], [])) (b := (12, [(0, .ref 2), (1, .int x1)], [])) rfl rfl c2 ?_
      refine rsn 1 (t := (13, [(0, .ref 2), (1, .int x1)], [.ref 2])) rfl ?_
      refine rgR rfl rfl rfl (hSh.1.k 2 rfl _) (hSh.1.r 93 rfl _) ?_
      refine rsn 1 (t := (17, [(0, .ref 2), (1, .int x1)], [.int x1, .ref 1])) rfl ?_
      obtain ⟨c3, h⟩ := ck_some h
      refine pxB rfl (Or.inl (hSh.1.k 1 rfl _)) (hSh.1.l 0 rfl _) c3 ?_
      show RN xs L al (Ev xs L al d) 20 18 [(0, .ref 2), (1, .int x1)] [.int ((mX m 1 x1.toNatClampNeg))] (m, S) (some (.int r0)) (m, S)
      refine rsn 1 (t := (20, [(0, .ref 2), (1, .int x1)], [.int 97, .int ((mX m 1 x1.toNatClampNeg))])) rfl ?_
      by_cases c4 : ((mX m 1 x1.toNatClampNeg)) < 97
      · rw [if_pos c4] at h
        refine rjt (a := (38, [(0, .ref 2), (1, .int x1)], [])) (b := (23, [(0, .ref 2), (1, .int x1)], [])) rfl rfl c4 ?_
        refine rsn 1 (t := (39, [(0, .ref 2), (1, .int x1)], [.int 0])) rfl ?_
        have h := Option.some.inj h
        subst h
        exact rret rfl ⟨rfl, rfl, _, _, rfl, rfl, rfl, rfl⟩
      · rw [if_neg c4] at h
        refine rjf (a := (38, [(0, .ref 2), (1, .int x1)], [])) (b := (23, [(0, .ref 2), (1, .int x1)], [])) rfl rfl c4 ?_
        refine rsn 1 (t := (24, [(0, .ref 2), (1, .int x1)], [.ref 2])) rfl ?_
        refine rgR rfl rfl rfl (hSh.1.k 2 rfl _) (hSh.1.r 93 rfl _) ?_
        refine rsn 1 (t := (28, [(0, .ref 2), (1, .int x1)], [.int x1, .ref 1])) rfl ?_
        obtain ⟨c5, h⟩ := ck_some h
        refine pxB rfl (Or.inl (hSh.1.k 1 rfl _)) (hSh.1.l 0 rfl _) c5 ?_
        show RN xs L al (Ev xs L al d) 20 29 [(0, .ref 2), (1, .int x1)] [.int ((mX m 1 x1.toNatClampNeg))] (m, S) (some (.int r0)) (m, S)
        refine rsn 1 (t := (31, [(0, .ref 2), (1, .int x1)], [.int 122, .int ((mX m 1 x1.toNatClampNeg))])) rfl ?_
        by_cases c6 : 122 < ((mX m 1 x1.toNatClampNeg))
        · rw [if_pos c6] at h
          refine rjt (a := (38, [(0, .ref 2), (1, .int x1)], [])) (b := (34, [(0, .ref 2), (1, .int x1)], [])) rfl rfl c6 ?_
          refine rsn 1 (t := (39, [(0, .ref 2), (1, .int x1)], [.int 0])) rfl ?_
          have h := Option.some.inj h
          subst h
          exact rret rfl ⟨rfl, rfl, _, _, rfl, rfl, rfl, rfl⟩
        · rw [if_neg c6] at h
          refine rjf (a := (38, [(0, .ref 2), (1, .int x1)], [])) (b := (34, [(0, .ref 2), (1, .int x1)], [])) rfl rfl c6 ?_
          refine rsn 2 (t := (39, [(0, .ref 2), (1, .int x1)], [.int 1])) rfl ?_
          have h := Option.some.inj h
          subst h
          exact rret rfl ⟨rfl, rfl, _, _, rfl, rfl, rfl, rfl⟩
def f_Reader_readWord_L10 (N : Nat) (S : St) (k10 : Mm → Option (Mm)) : Nat → Mm → Option (Mm)
  | 0, _ => none
  | n10 + 1, m => (if ((mI m 2 1)) ≤ ((mI m 2 2)) then k10 m else b1 (f_Reader_isLetterAt N S ((mI m 2 2)) m) fun r2 => (if r2 = 0 then k10 m else ck (ix ((mI m 2 2)) 400) (f_Reader_readWord_L10 N S k10 n10 ((vI (vJ m 2 6 ((((lsl ((mJ m 2 6)) 8)) ||| (((mX m 1 (((mI m 2 2)).toNatClampNeg))).toInt64)))) 2 2 ((((mI m 2 2)) + 1)))))))
def f_Reader_readWord (N : Nat) (S : St) (m : Mm) : Option (Mm) := f_Reader_readWord_L10 N S (fun (m5 : Mm) => (if ((((mI m5 2 2)) - ((mI m5 2 4)))) ≤ 8 then some m5 else some (vJ m5 2 6 0))) N (vJ (vI m 2 3 1) 2 6 0)
set_option maxRecDepth 20000 in
set_option maxHeartbeats 4000000 in
theorem e_Reader_readWord {xs : Nat → Int32} {L : Nat} {al : Bool} (N : Nat) {d : Nat} (hd : 2 ≤ d) {S : St} (hSh : ShC S) {m : Mm} {mf : Mm} (h : f_Reader_readWord N S m = some mf) : Ev xs L al d 21 [.ref 2] (m, S) none (mf, S) := by
  obtain ⟨d, rfl⟩ : ∃ e, d = e + 1 := ⟨d - 1, by omega⟩
  refine ev_of (by decide) (Nat.le_of_ble_eq_true rfl) ?_
  rw [f_Reader_readWord] at h
  show RN xs L al (Ev xs L al d) 21 0 [(0, .ref 2)] [] (m, S) none (mf, S)
  refine rsn 2 (t := (2, [(0, .ref 2)], [.int 1, .ref 2])) rfl ?_
  refine ppI rfl rfl rfl rfl (hSh.1.k 2 rfl _) ?_
  refine rsn 2 (t := (7, [(0, .ref 2)], [.long 0, .ref 2])) rfl ?_
  refine ppJ rfl rfl rfl rfl (hSh.1.k 2 rfl _) ?_
  have ex10 : ∀ (m5 : Mm), ((if ((((mI m5 2 2)) - ((mI m5 2 4)))) ≤ 8 then some m5 else some (vJ m5 2 6 0))) = some mf → RN xs L al (Ev xs L al d) 21 67 [(0, .ref 2)] [] (m5, S) none (mf, S) := by
    intro m5 h
    try dsimp only at h
    refine rsn 1 (t := (68, [(0, .ref 2)], [.ref 2])) rfl ?_
    refine pgI rfl rfl rfl (hSh.1.k 2 rfl _) ?_
    show RN xs L al (Ev xs L al d) 21 71 [(0, .ref 2)] [.int ((mI m5 2 2))] (m5, S) none (mf, S)
    refine rsn 1 (t := (72, [(0, .ref 2)], [.ref 2, .int ((mI m5 2 2))])) rfl ?_
    refine pgI rfl rfl rfl (hSh.1.k 2 rfl _) ?_
    show RN xs L al (Ev xs L al d) 21 75 [(0, .ref 2)] [.int ((mI m5 2 4)), .int ((mI m5 2 2))] (m5, S) none (mf, S)
    refine rsn 2 (t := (78, [(0, .ref 2)], [.int 8, .int ((((mI m5 2 2)) - ((mI m5 2 4))))])) rfl ?_
    by_cases c6 : ((((mI m5 2 2)) - ((mI m5 2 4)))) ≤ 8
    · rw [if_pos c6] at h
      refine rjt (a := (86, [(0, .ref 2)], [])) (b := (81, [(0, .ref 2)], [])) rfl rfl c6 ?_
      have h := Option.some.inj h
      subst h
      exact rret rfl ⟨rfl, rfl, rfl, rfl, rfl⟩
    · rw [if_neg c6] at h
      refine rjf (a := (86, [(0, .ref 2)], [])) (b := (81, [(0, .ref 2)], [])) rfl rfl c6 ?_
      refine rsn 2 (t := (83, [(0, .ref 2)], [.long 0, .ref 2])) rfl ?_
      refine ppJ rfl rfl rfl rfl (hSh.1.k 2 rfl _) ?_
      have h := Option.some.inj h
      subst h
      exact rret rfl ⟨rfl, rfl, rfl, rfl, rfl⟩
  have lp10 : ∀ (n : Nat) (m7 : Mm), (f_Reader_readWord_L10 N S (fun (m5 : Mm) => (if ((((mI m5 2 2)) - ((mI m5 2 4)))) ≤ 8 then some m5 else some (vJ m5 2 6 0))) n m7) = some mf → RN xs L al (Ev xs L al d) 21 10 [(0, .ref 2)] [] (m7, S) none (mf, S) := by
    intro n
    induction n with
    | zero => intro m7 h; exact absurd h (by simp [f_Reader_readWord_L10])
    | succ n10 ih10 =>
      intro m7 h
      try dsimp only at h
      rw [f_Reader_readWord_L10] at h
      try dsimp only at h
      refine rsn 1 (t := (11, [(0, .ref 2)], [.ref 2])) rfl ?_
      refine pgI rfl rfl rfl (hSh.1.k 2 rfl _) ?_
      show RN xs L al (Ev xs L al d) 21 14 [(0, .ref 2)] [.int ((mI m7 2 2))] (m7, S) none (mf, S)
      refine rsn 1 (t := (15, [(0, .ref 2)], [.ref 2, .int ((mI m7 2 2))])) rfl ?_
      refine pgI rfl rfl rfl (hSh.1.k 2 rfl _) ?_
      show RN xs L al (Ev xs L al d) 21 18 [(0, .ref 2)] [.int ((mI m7 2 1)), .int ((mI m7 2 2))] (m7, S) none (mf, S)
      by_cases c8 : ((mI m7 2 1)) ≤ ((mI m7 2 2))
      · rw [if_pos c8] at h
        refine rjt (a := (67, [(0, .ref 2)], [])) (b := (21, [(0, .ref 2)], [])) rfl rfl c8 ?_
        exact rsub [(0, .ref 2)] ⟨rfl, trivial⟩ ⟨rfl, trivial⟩ (ex10 m7 h)
      · rw [if_neg c8] at h
        refine rjf (a := (67, [(0, .ref 2)], [])) (b := (21, [(0, .ref 2)], [])) rfl rfl c8 ?_
        refine rsn 2 (t := (23, [(0, .ref 2)], [.ref 2, .ref 2])) rfl ?_
        refine pgI rfl rfl rfl (hSh.1.k 2 rfl _) ?_
        show RN xs L al (Ev xs L al d) 21 26 [(0, .ref 2)] [.int ((mI m7 2 2)), .ref 2] (m7, S) none (mf, S)
        obtain ⟨r9, g9, h⟩ := b1_some h
        refine rcV 20 2 [.int ((mI m7 2 2))] rfl rfl rfl (hSh.1.k 2 rfl _) (Nat.le_of_ble_eq_true rfl) rfl (e_Reader_isLetterAt N (by omega) hSh g9) ?_
        show RN xs L al (Ev xs L al d) 21 29 [(0, .ref 2)] [.int r9] (m7, S) none (mf, S)
        by_cases c10 : r9 = 0
        · rw [if_pos c10] at h
          refine rjt (a := (67, [(0, .ref 2)], [])) (b := (32, [(0, .ref 2)], [])) rfl rfl c10 ?_
          exact rsub [(0, .ref 2)] ⟨rfl, trivial⟩ ⟨rfl, trivial⟩ (ex10 m7 h)
        · rw [if_neg c10] at h
          refine rjf (a := (67, [(0, .ref 2)], [])) (b := (32, [(0, .ref 2)], [])) rfl rfl c10 ?_
          refine rsn 2 (t := (34, [(0, .ref 2)], [.ref 2, .ref 2])) rfl ?_
          refine pgJ rfl rfl rfl (hSh.1.k 2 rfl _) ?_
          show RN xs L al (Ev xs L al d) 21 37 [(0, .ref 2)] [.long ((mJ m7 2 6)), .ref 2] (m7, S) none (mf, S)
          refine rsn 1 (t := (39, [(0, .ref 2)], [.int 8, .long ((mJ m7 2 6)), .ref 2])) rfl ?_
          refine rsn 1 (t := (40, [(0, .ref 2)], [.long ((lsl ((mJ m7 2 6)) 8)), .ref 2])) rfl ?_
          refine rsn 1 (t := (41, [(0, .ref 2)], [.ref 2, .long ((lsl ((mJ m7 2 6)) 8)), .ref 2])) rfl ?_
          refine rgR rfl rfl rfl (hSh.1.k 2 rfl _) (hSh.1.r 93 rfl _) ?_
          refine rsn 1 (t := (45, [(0, .ref 2)], [.ref 2, .ref 1, .long ((lsl ((mJ m7 2 6)) 8)), .ref 2])) rfl ?_
          refine pgI rfl rfl rfl (hSh.1.k 2 rfl _) ?_
          show RN xs L al (Ev xs L al d) 21 48 [(0, .ref 2)] [.int ((mI m7 2 2)), .ref 1, .long ((lsl ((mJ m7 2 6)) 8)), .ref 2] (m7, S) none (mf, S)
          obtain ⟨c11, h⟩ := ck_some h
          refine pxB rfl (Or.inl (hSh.1.k 1 rfl _)) (hSh.1.l 0 rfl _) c11 ?_
          show RN xs L al (Ev xs L al d) 21 49 [(0, .ref 2)] [.int ((mX m7 1 (((mI m7 2 2)).toNatClampNeg))), .long ((lsl ((mJ m7 2 6)) 8)), .ref 2] (m7, S) none (mf, S)
          refine rsn 2 (t := (51, [(0, .ref 2)], [.long ((((lsl ((mJ m7 2 6)) 8)) ||| (((mX m7 1 (((mI m7 2 2)).toNatClampNeg))).toInt64))), .ref 2])) rfl ?_
          refine ppJ rfl rfl rfl rfl (hSh.1.k 2 rfl _) ?_
          refine rsn 2 (t := (56, [(0, .ref 2)], [.ref 2, .ref 2])) rfl ?_
          refine pgI rfl rfl rfl (hSh.1.k 2 rfl _) ?_
          show RN xs L al (Ev xs L al d) 21 59 [(0, .ref 2)] [.int ((mI m7 2 2)), .ref 2] ((vJ m7 2 6 ((((lsl ((mJ m7 2 6)) 8)) ||| (((mX m7 1 (((mI m7 2 2)).toNatClampNeg))).toInt64)))), S) none (mf, S)
          refine rsn 2 (t := (61, [(0, .ref 2)], [.int ((((mI m7 2 2)) + 1)), .ref 2])) rfl ?_
          refine ppI rfl rfl rfl rfl (hSh.1.k 2 rfl _) ?_
          refine rsn 1 (t := (10, [(0, .ref 2)], [])) rfl ?_
          exact rsub [(0, .ref 2)] ⟨rfl, trivial⟩ ⟨rfl, trivial⟩ (ih10 ((vI (vJ m7 2 6 ((((lsl ((mJ m7 2 6)) 8)) ||| (((mX m7 1 (((mI m7 2 2)).toNatClampNeg))).toInt64)))) 2 2 ((((mI m7 2 2)) + 1)))) h)
  exact rsub [(0, .ref 2)] ⟨rfl, trivial⟩ ⟨rfl, trivial⟩ (lp10 N (vJ (vI m 2 3 1) 2 6 0) h)
def f_Reader_isDigitAt (N : Nat) (S : St) (x1 : Int32) (m : Mm) : Option (Int32) := (if x1 < 0 then some 0 else (if ((mI m 2 1)) ≤ x1 then some 0 else ck (ix x1 400) ((if ((mX m 1 x1.toNatClampNeg)) < 48 then some 0 else ck (ix x1 400) ((if 57 < ((mX m 1 x1.toNatClampNeg)) then some 0 else some 1))))))
set_option maxRecDepth 20000 in
set_option maxHeartbeats 4000000 in
theorem e_Reader_isDigitAt {xs : Nat → Int32} {L : Nat} {al : Bool} (N : Nat) {d : Nat} (hd : 1 ≤ d) {S : St} (hSh : ShC S) {x1 : Int32} {m : Mm} {r0 : Int32} (h : f_Reader_isDigitAt N S x1 m = some r0) : Ev xs L al d 22 [.ref 2, .int x1] (m, S) (some (.int r0)) (m, S) := by
  obtain ⟨d, rfl⟩ : ∃ e, d = e + 1 := ⟨d - 1, by omega⟩
  refine ev_of (by decide) (Nat.le_of_ble_eq_true rfl) ?_
  rw [f_Reader_isDigitAt] at h
  show RN xs L al (Ev xs L al d) 22 0 [(0, .ref 2), (1, .int x1)] [] (m, S) (some (.int r0)) (m, S)
  refine rsn 1 (t := (1, [(0, .ref 2), (1, .int x1)], [.int x1])) rfl ?_
  by_cases c1 : x1 < 0
  · rw [if_pos c1] at h
    refine rjt (a := (38, [(0, .ref 2), (1, .int x1)], [])) (b := (4, [(0, .ref 2), (1, .int x1)], [])) rfl rfl c1 ?_
    refine rsn 1 (t := (39, [(0, .ref 2), (1, .int x1)], [.int 0])) rfl ?_
    have h := Option.some.inj h
    subst h
    exact rret rfl ⟨rfl, rfl, _, _, rfl, rfl, rfl, rfl⟩
  · rw [if_neg c1] at h
    refine rjf (a := (38, [(0, .ref 2), (1, .int x1)], [])) (b := (4, [(0, .ref 2), (1, .int x1)], [])) rfl rfl c1 ?_
    refine rsn 2 (t := (6, [(0, .ref 2), (1, .int x1)], [.ref 2, .int x1])) rfl ?_
    refine pgI rfl rfl rfl (hSh.1.k 2 rfl _) ?_
    show RN xs L al (Ev xs L al d) 22 9 [(0, .ref 2), (1, .int x1)] [.int ((mI m 2 1)), .int x1] (m, S) (some (.int r0)) (m, S)
    by_cases c2 : ((mI m 2 1)) ≤ x1
    · rw [if_pos c2] at h
      refine rjt (a := (38, [(0, .ref 2), (1, .int x1)], [])) (b := (12, [(0, .ref 2), (1, .int x1)], [])) rfl rfl c2 ?_
      refine rsn 1 (t := (39, [(0, .ref 2), (1, .int x1)], [.int 0])) rfl ?_
      have h := Option.some.inj h
      subst h
      exact rret rfl ⟨rfl, rfl, _, _, rfl, rfl, rfl, rfl⟩
    · rw [if_neg c2] at h
      refine rjf (a := (38, [(0, .ref 2), (1, .int x1)], [])) (b := (12, [(0, .ref 2), (1, .int x1)], [])) rfl rfl c2 ?_
      refine rsn 1 (t := (13, [(0, .ref 2), (1, .int x1)], [.ref 2])) rfl ?_
      refine rgR rfl rfl rfl (hSh.1.k 2 rfl _) (hSh.1.r 93 rfl _) ?_
      refine rsn 1 (t := (17, [(0, .ref 2), (1, .int x1)], [.int x1, .ref 1])) rfl ?_
      obtain ⟨c3, h⟩ := ck_some h
      refine pxB rfl (Or.inl (hSh.1.k 1 rfl _)) (hSh.1.l 0 rfl _) c3 ?_
      show RN xs L al (Ev xs L al d) 22 18 [(0, .ref 2), (1, .int x1)] [.int ((mX m 1 x1.toNatClampNeg))] (m, S) (some (.int r0)) (m, S)
      refine rsn 1 (t := (20, [(0, .ref 2), (1, .int x1)], [.int 48, .int ((mX m 1 x1.toNatClampNeg))])) rfl ?_
      by_cases c4 : ((mX m 1 x1.toNatClampNeg)) < 48
      · rw [if_pos c4] at h
        refine rjt (a := (38, [(0, .ref 2), (1, .int x1)], [])) (b := (23, [(0, .ref 2), (1, .int x1)], [])) rfl rfl c4 ?_
        refine rsn 1 (t := (39, [(0, .ref 2), (1, .int x1)], [.int 0])) rfl ?_
        have h := Option.some.inj h
        subst h
        exact rret rfl ⟨rfl, rfl, _, _, rfl, rfl, rfl, rfl⟩
      · rw [if_neg c4] at h
        refine rjf (a := (38, [(0, .ref 2), (1, .int x1)], [])) (b := (23, [(0, .ref 2), (1, .int x1)], [])) rfl rfl c4 ?_
        refine rsn 1 (t := (24, [(0, .ref 2), (1, .int x1)], [.ref 2])) rfl ?_
        refine rgR rfl rfl rfl (hSh.1.k 2 rfl _) (hSh.1.r 93 rfl _) ?_
        refine rsn 1 (t := (28, [(0, .ref 2), (1, .int x1)], [.int x1, .ref 1])) rfl ?_
        obtain ⟨c5, h⟩ := ck_some h
        refine pxB rfl (Or.inl (hSh.1.k 1 rfl _)) (hSh.1.l 0 rfl _) c5 ?_
        show RN xs L al (Ev xs L al d) 22 29 [(0, .ref 2), (1, .int x1)] [.int ((mX m 1 x1.toNatClampNeg))] (m, S) (some (.int r0)) (m, S)
        refine rsn 1 (t := (31, [(0, .ref 2), (1, .int x1)], [.int 57, .int ((mX m 1 x1.toNatClampNeg))])) rfl ?_
        by_cases c6 : 57 < ((mX m 1 x1.toNatClampNeg))
        · rw [if_pos c6] at h
          refine rjt (a := (38, [(0, .ref 2), (1, .int x1)], [])) (b := (34, [(0, .ref 2), (1, .int x1)], [])) rfl rfl c6 ?_
          refine rsn 1 (t := (39, [(0, .ref 2), (1, .int x1)], [.int 0])) rfl ?_
          have h := Option.some.inj h
          subst h
          exact rret rfl ⟨rfl, rfl, _, _, rfl, rfl, rfl, rfl⟩
        · rw [if_neg c6] at h
          refine rjf (a := (38, [(0, .ref 2), (1, .int x1)], [])) (b := (34, [(0, .ref 2), (1, .int x1)], [])) rfl rfl c6 ?_
          refine rsn 2 (t := (39, [(0, .ref 2), (1, .int x1)], [.int 1])) rfl ?_
          have h := Option.some.inj h
          subst h
          exact rret rfl ⟨rfl, rfl, _, _, rfl, rfl, rfl, rfl⟩
def f_Reader_readNumber_L10 (N : Nat) (S : St) (k10 : Mm → Option (Mm)) : Nat → Mm → Option (Mm)
  | 0, _ => none
  | n10 + 1, m => (if ((mI m 2 1)) ≤ ((mI m 2 2)) then k10 m else b1 (f_Reader_isDigitAt N S ((mI m 2 2)) m) fun r2 => (if r2 = 0 then k10 m else ck (ix ((mI m 2 2)) 400) (f_Reader_readNumber_L10 N S k10 n10 ((vI (vI m 2 5 ((if 1000 < ((((((((mI m 2 5)) * 10)) + ((mX m 1 (((mI m 2 2)).toNatClampNeg))))) - 48)) then 1000 else ((((((((mI m 2 5)) * 10)) + ((mX m 1 (((mI m 2 2)).toNatClampNeg))))) - 48))))) 2 2 ((((mI m 2 2)) + 1)))))))
def f_Reader_readNumber (N : Nat) (S : St) (m : Mm) : Option (Mm) := f_Reader_readNumber_L10 N S (fun (m5 : Mm) => some m5) N (vI (vI m 2 3 2) 2 5 0)
set_option maxRecDepth 20000 in
set_option maxHeartbeats 4000000 in
theorem e_Reader_readNumber {xs : Nat → Int32} {L : Nat} {al : Bool} (N : Nat) {d : Nat} (hd : 2 ≤ d) {S : St} (hSh : ShC S) {m : Mm} {mf : Mm} (h : f_Reader_readNumber N S m = some mf) : Ev xs L al d 23 [.ref 2] (m, S) none (mf, S) := by
  obtain ⟨d, rfl⟩ : ∃ e, d = e + 1 := ⟨d - 1, by omega⟩
  refine ev_of (by decide) (Nat.le_of_ble_eq_true rfl) ?_
  rw [f_Reader_readNumber] at h
  show RN xs L al (Ev xs L al d) 23 0 [(0, .ref 2)] [] (m, S) none (mf, S)
  refine rsn 2 (t := (2, [(0, .ref 2)], [.int 2, .ref 2])) rfl ?_
  refine ppI rfl rfl rfl rfl (hSh.1.k 2 rfl _) ?_
  refine rsn 2 (t := (7, [(0, .ref 2)], [.int 0, .ref 2])) rfl ?_
  refine ppI rfl rfl rfl rfl (hSh.1.k 2 rfl _) ?_
  have ex10 : ∀ (m5 : Mm), (some m5) = some mf → RN xs L al (Ev xs L al d) 23 75 [] [] (m5, S) none (mf, S) := by
    intro m5 h
    try dsimp only at h
    have h := Option.some.inj h
    subst h
    exact rret rfl ⟨rfl, rfl, rfl, rfl, rfl⟩
  have lp10 : ∀ (n : Nat) (m6 : Mm), (f_Reader_readNumber_L10 N S (fun (m5 : Mm) => some m5) n m6) = some mf → RN xs L al (Ev xs L al d) 23 10 [(0, .ref 2)] [] (m6, S) none (mf, S) := by
    intro n
    induction n with
    | zero => intro m6 h; exact absurd h (by simp [f_Reader_readNumber_L10])
    | succ n10 ih10 =>
      intro m6 h
      try dsimp only at h
      rw [f_Reader_readNumber_L10] at h
      try dsimp only at h
      refine rsn 1 (t := (11, [(0, .ref 2)], [.ref 2])) rfl ?_
      refine pgI rfl rfl rfl (hSh.1.k 2 rfl _) ?_
      show RN xs L al (Ev xs L al d) 23 14 [(0, .ref 2)] [.int ((mI m6 2 2))] (m6, S) none (mf, S)
      refine rsn 1 (t := (15, [(0, .ref 2)], [.ref 2, .int ((mI m6 2 2))])) rfl ?_
      refine pgI rfl rfl rfl (hSh.1.k 2 rfl _) ?_
      show RN xs L al (Ev xs L al d) 23 18 [(0, .ref 2)] [.int ((mI m6 2 1)), .int ((mI m6 2 2))] (m6, S) none (mf, S)
      by_cases c7 : ((mI m6 2 1)) ≤ ((mI m6 2 2))
      · rw [if_pos c7] at h
        refine rjt (a := (75, [(0, .ref 2)], [])) (b := (21, [(0, .ref 2)], [])) rfl rfl c7 ?_
        exact rsub [] trivial trivial (ex10 m6 h)
      · rw [if_neg c7] at h
        refine rjf (a := (75, [(0, .ref 2)], [])) (b := (21, [(0, .ref 2)], [])) rfl rfl c7 ?_
        refine rsn 2 (t := (23, [(0, .ref 2)], [.ref 2, .ref 2])) rfl ?_
        refine pgI rfl rfl rfl (hSh.1.k 2 rfl _) ?_
        show RN xs L al (Ev xs L al d) 23 26 [(0, .ref 2)] [.int ((mI m6 2 2)), .ref 2] (m6, S) none (mf, S)
        obtain ⟨r8, g8, h⟩ := b1_some h
        refine rcV 22 2 [.int ((mI m6 2 2))] rfl rfl rfl (hSh.1.k 2 rfl _) (Nat.le_of_ble_eq_true rfl) rfl (e_Reader_isDigitAt N (by omega) hSh g8) ?_
        show RN xs L al (Ev xs L al d) 23 29 [(0, .ref 2)] [.int r8] (m6, S) none (mf, S)
        by_cases c9 : r8 = 0
        · rw [if_pos c9] at h
          refine rjt (a := (75, [(0, .ref 2)], [])) (b := (32, [(0, .ref 2)], [])) rfl rfl c9 ?_
          exact rsub [] trivial trivial (ex10 m6 h)
        · rw [if_neg c9] at h
          refine rjf (a := (75, [(0, .ref 2)], [])) (b := (32, [(0, .ref 2)], [])) rfl rfl c9 ?_
          refine rsn 2 (t := (34, [(0, .ref 2)], [.ref 2, .ref 2])) rfl ?_
          refine pgI rfl rfl rfl (hSh.1.k 2 rfl _) ?_
          show RN xs L al (Ev xs L al d) 23 37 [(0, .ref 2)] [.int ((mI m6 2 5)), .ref 2] (m6, S) none (mf, S)
          refine rsn 3 (t := (41, [(0, .ref 2)], [.ref 2, .int ((((mI m6 2 5)) * 10)), .ref 2])) rfl ?_
          refine rgR rfl rfl rfl (hSh.1.k 2 rfl _) (hSh.1.r 93 rfl _) ?_
          refine rsn 1 (t := (45, [(0, .ref 2)], [.ref 2, .ref 1, .int ((((mI m6 2 5)) * 10)), .ref 2])) rfl ?_
          refine pgI rfl rfl rfl (hSh.1.k 2 rfl _) ?_
          show RN xs L al (Ev xs L al d) 23 48 [(0, .ref 2)] [.int ((mI m6 2 2)), .ref 1, .int ((((mI m6 2 5)) * 10)), .ref 2] (m6, S) none (mf, S)
          obtain ⟨c10, h⟩ := ck_some h
          refine pxB rfl (Or.inl (hSh.1.k 1 rfl _)) (hSh.1.l 0 rfl _) c10 ?_
          show RN xs L al (Ev xs L al d) 23 49 [(0, .ref 2)] [.int ((mX m6 1 (((mI m6 2 2)).toNatClampNeg))), .int ((((mI m6 2 5)) * 10)), .ref 2] (m6, S) none (mf, S)
          refine rsn 4 (t := (56, [(0, .ref 2)], [.int 1000, .int ((((((((mI m6 2 5)) * 10)) + ((mX m6 1 (((mI m6 2 2)).toNatClampNeg))))) - 48)), .ref 2])) rfl ?_
          refine rm (st1 := [.int ((if 1000 < ((((((((mI m6 2 5)) * 10)) + ((mX m6 1 (((mI m6 2 2)).toNatClampNeg))))) - 48)) then 1000 else ((((((((mI m6 2 5)) * 10)) + ((mX m6 1 (((mI m6 2 2)).toNatClampNeg))))) - 48)))), .ref 2]) rfl ⟨rfl, rfl, 2, [.ref 2], rfl, Nat.le_of_ble_eq_true rfl, Or.inr (Or.inr (Or.inl ⟨rfl, _, _, rfl, rfl⟩))⟩ ?_
          refine ppI rfl rfl rfl rfl (hSh.1.k 2 rfl _) ?_
          refine rsn 2 (t := (64, [(0, .ref 2)], [.ref 2, .ref 2])) rfl ?_
          refine pgI rfl rfl rfl (hSh.1.k 2 rfl _) ?_
          show RN xs L al (Ev xs L al d) 23 67 [(0, .ref 2)] [.int ((mI m6 2 2)), .ref 2] ((vI m6 2 5 ((if 1000 < ((((((((mI m6 2 5)) * 10)) + ((mX m6 1 (((mI m6 2 2)).toNatClampNeg))))) - 48)) then 1000 else ((((((((mI m6 2 5)) * 10)) + ((mX m6 1 (((mI m6 2 2)).toNatClampNeg))))) - 48))))), S) none (mf, S)
          refine rsn 2 (t := (69, [(0, .ref 2)], [.int ((((mI m6 2 2)) + 1)), .ref 2])) rfl ?_
          refine ppI rfl rfl rfl rfl (hSh.1.k 2 rfl _) ?_
          refine rsn 1 (t := (10, [(0, .ref 2)], [])) rfl ?_
          exact rsub [(0, .ref 2)] ⟨rfl, trivial⟩ ⟨rfl, trivial⟩ (ih10 ((vI (vI m6 2 5 ((if 1000 < ((((((((mI m6 2 5)) * 10)) + ((mX m6 1 (((mI m6 2 2)).toNatClampNeg))))) - 48)) then 1000 else ((((((((mI m6 2 5)) * 10)) + ((mX m6 1 (((mI m6 2 2)).toNatClampNeg))))) - 48))))) 2 2 ((((mI m6 2 2)) + 1)))) h)
  exact rsub [(0, .ref 2)] ⟨rfl, trivial⟩ ⟨rfl, trivial⟩ (lp10 N (vI (vI m 2 3 2) 2 5 0) h)
def f_Reader_step_L0 (N : Nat) (S : St) (k0 : Mm → Option (Mm)) : Nat → Mm → Option (Mm)
  | 0, _ => none
  | n0 + 1, m => (if ((mI m 2 1)) ≤ ((mI m 2 2)) then k0 m else ck (ix ((mI m 2 2)) 400) ((if ((mX m 1 (((mI m 2 2)).toNatClampNeg))) = 32 then f_Reader_step_L0 N S k0 n0 ((vI m 2 2 ((((mI m 2 2)) + 1)))) else ck (ix ((mI m 2 2)) 400) ((if ((mX m 1 (((mI m 2 2)).toNatClampNeg))) = 10 then f_Reader_step_L0 N S k0 n0 ((vI m 2 2 ((((mI m 2 2)) + 1)))) else k0 m)))))
def f_Reader_step (N : Nat) (S : St) (m : Mm) : Option (Mm) := f_Reader_step_L0 N S (fun (m6 : Mm) => (if ((mI m6 2 2)) < ((mI m6 2 1)) then b1 (f_Reader_isLetterAt N S ((mI m6 2 2)) (vI m6 2 4 ((mI m6 2 2)))) fun r8 => (if r8 = 0 then b1 (f_Reader_isDigitAt N S ((mI m6 2 2)) (vI m6 2 4 ((mI m6 2 2)))) fun r10 => (if r10 = 0 then ck (ix ((mI m6 2 2)) 400) ((jn (fun (s13 : Int32) => some (vI (vI (vI m6 2 4 ((mI m6 2 2))) 2 3 s13) 2 2 ((((mI m6 2 2)) + 1)))) (fun j153 => if ((mX m6 1 (((mI m6 2 2)).toNatClampNeg))) = 44 then j153 3 else ck (ix ((mI m6 2 2)) 400) ((if ((mX m6 1 (((mI m6 2 2)).toNatClampNeg))) = 59 then j153 4 else j153 5))))) else b3 (f_Reader_readNumber N S (vI m6 2 4 ((mI m6 2 2)))) fun m17 => some m17) else b3 (f_Reader_readWord N S (vI m6 2 4 ((mI m6 2 2)))) fun m18 => some m18) else some (vI (vI m6 2 4 ((mI m6 2 2))) 2 3 0))) N m
set_option maxRecDepth 20000 in
set_option maxHeartbeats 4000000 in
theorem e_Reader_step {xs : Nat → Int32} {L : Nat} {al : Bool} (N : Nat) {d : Nat} (hd : 3 ≤ d) {S : St} (hSh : ShC S) {m : Mm} {mf : Mm} (h : f_Reader_step N S m = some mf) : Ev xs L al d 19 [.ref 2] (m, S) none (mf, S) := by
  obtain ⟨d, rfl⟩ : ∃ e, d = e + 1 := ⟨d - 1, by omega⟩
  refine ev_of (by decide) (Nat.le_of_ble_eq_true rfl) ?_
  rw [f_Reader_step] at h
  show RN xs L al (Ev xs L al d) 19 0 [(0, .ref 2)] [] (m, S) none (mf, S)
  have ex0 : ∀ (m6 : Mm), ((if ((mI m6 2 2)) < ((mI m6 2 1)) then b1 (f_Reader_isLetterAt N S ((mI m6 2 2)) (vI m6 2 4 ((mI m6 2 2)))) fun r8 => (if r8 = 0 then b1 (f_Reader_isDigitAt N S ((mI m6 2 2)) (vI m6 2 4 ((mI m6 2 2)))) fun r10 => (if r10 = 0 then ck (ix ((mI m6 2 2)) 400) ((jn (fun (s13 : Int32) => some (vI (vI (vI m6 2 4 ((mI m6 2 2))) 2 3 s13) 2 2 ((((mI m6 2 2)) + 1)))) (fun j153 => if ((mX m6 1 (((mI m6 2 2)).toNatClampNeg))) = 44 then j153 3 else ck (ix ((mI m6 2 2)) 400) ((if ((mX m6 1 (((mI m6 2 2)).toNatClampNeg))) = 59 then j153 4 else j153 5))))) else b3 (f_Reader_readNumber N S (vI m6 2 4 ((mI m6 2 2)))) fun m17 => some m17) else b3 (f_Reader_readWord N S (vI m6 2 4 ((mI m6 2 2)))) fun m18 => some m18) else some (vI (vI m6 2 4 ((mI m6 2 2))) 2 3 0))) = some mf → RN xs L al (Ev xs L al d) 19 52 [(0, .ref 2)] [] (m6, S) none (mf, S) := by
    intro m6 h
    try dsimp only at h
    refine rsn 2 (t := (54, [(0, .ref 2)], [.ref 2, .ref 2])) rfl ?_
    refine pgI rfl rfl rfl (hSh.1.k 2 rfl _) ?_
    show RN xs L al (Ev xs L al d) 19 57 [(0, .ref 2)] [.int ((mI m6 2 2)), .ref 2] (m6, S) none (mf, S)
    refine ppI rfl rfl rfl rfl (hSh.1.k 2 rfl _) ?_
    refine rsn 1 (t := (61, [(0, .ref 2)], [.ref 2])) rfl ?_
    refine pgI rfl rfl rfl (hSh.1.k 2 rfl _) ?_
    show RN xs L al (Ev xs L al d) 19 64 [(0, .ref 2)] [.int ((mI m6 2 2))] ((vI m6 2 4 ((mI m6 2 2))), S) none (mf, S)
    refine rsn 1 (t := (65, [(0, .ref 2)], [.ref 2, .int ((mI m6 2 2))])) rfl ?_
    refine pgI rfl rfl rfl (hSh.1.k 2 rfl _) ?_
    show RN xs L al (Ev xs L al d) 19 68 [(0, .ref 2)] [.int ((mI m6 2 1)), .int ((mI m6 2 2))] ((vI m6 2 4 ((mI m6 2 2))), S) none (mf, S)
    by_cases c7 : ((mI m6 2 2)) < ((mI m6 2 1))
    · rw [if_pos c7] at h
      refine rjt (a := (79, [(0, .ref 2)], [])) (b := (71, [(0, .ref 2)], [])) rfl rfl c7 ?_
      refine rsn 2 (t := (81, [(0, .ref 2)], [.ref 2, .ref 2])) rfl ?_
      refine pgI rfl rfl rfl (hSh.1.k 2 rfl _) ?_
      show RN xs L al (Ev xs L al d) 19 84 [(0, .ref 2)] [.int ((mI m6 2 2)), .ref 2] ((vI m6 2 4 ((mI m6 2 2))), S) none (mf, S)
      obtain ⟨r8, g8, h⟩ := b1_some h
      refine rcV 20 2 [.int ((mI m6 2 2))] rfl rfl rfl (hSh.1.k 2 rfl _) (Nat.le_of_ble_eq_true rfl) rfl (e_Reader_isLetterAt N (by omega) hSh g8) ?_
      show RN xs L al (Ev xs L al d) 19 87 [(0, .ref 2)] [.int r8] ((vI m6 2 4 ((mI m6 2 2))), S) none (mf, S)
      by_cases c9 : r8 = 0
      · rw [if_pos c9] at h
        refine rjt (a := (97, [(0, .ref 2)], [])) (b := (90, [(0, .ref 2)], [])) rfl rfl c9 ?_
        refine rsn 2 (t := (99, [(0, .ref 2)], [.ref 2, .ref 2])) rfl ?_
        refine pgI rfl rfl rfl (hSh.1.k 2 rfl _) ?_
        show RN xs L al (Ev xs L al d) 19 102 [(0, .ref 2)] [.int ((mI m6 2 2)), .ref 2] ((vI m6 2 4 ((mI m6 2 2))), S) none (mf, S)
        obtain ⟨r10, g10, h⟩ := b1_some h
        refine rcV 22 2 [.int ((mI m6 2 2))] rfl rfl rfl (hSh.1.k 2 rfl _) (Nat.le_of_ble_eq_true rfl) rfl (e_Reader_isDigitAt N (by omega) hSh g10) ?_
        show RN xs L al (Ev xs L al d) 19 105 [(0, .ref 2)] [.int r10] ((vI m6 2 4 ((mI m6 2 2))), S) none (mf, S)
        by_cases c11 : r10 = 0
        · rw [if_pos c11] at h
          refine rjt (a := (115, [(0, .ref 2)], [])) (b := (108, [(0, .ref 2)], [])) rfl rfl c11 ?_
          refine rsn 2 (t := (117, [(0, .ref 2)], [.ref 2, .ref 2])) rfl ?_
          refine rgR rfl rfl rfl (hSh.1.k 2 rfl _) (hSh.1.r 93 rfl _) ?_
          refine rsn 1 (t := (121, [(0, .ref 2)], [.ref 2, .ref 1, .ref 2])) rfl ?_
          refine pgI rfl rfl rfl (hSh.1.k 2 rfl _) ?_
          show RN xs L al (Ev xs L al d) 19 124 [(0, .ref 2)] [.int ((mI m6 2 2)), .ref 1, .ref 2] ((vI m6 2 4 ((mI m6 2 2))), S) none (mf, S)
          obtain ⟨c12, h⟩ := ck_some h
          refine pxB rfl (Or.inl (hSh.1.k 1 rfl _)) (hSh.1.l 0 rfl _) c12 ?_
          show RN xs L al (Ev xs L al d) 19 125 [(0, .ref 2)] [.int ((mX m6 1 (((mI m6 2 2)).toNatClampNeg))), .ref 2] ((vI m6 2 4 ((mI m6 2 2))), S) none (mf, S)
          refine rsn 1 (t := (127, [(0, .ref 2)], [.int 44, .int ((mX m6 1 (((mI m6 2 2)).toNatClampNeg))), .ref 2])) rfl ?_
          have jp153 : ∀ (s13 : Int32), (some (vI (vI (vI m6 2 4 ((mI m6 2 2))) 2 3 s13) 2 2 ((((mI m6 2 2)) + 1)))) = some mf → RN xs L al (Ev xs L al d) 19 153 [(0, .ref 2)] [.int s13, .ref 2] ((vI m6 2 4 ((mI m6 2 2))), S) none (mf, S) := by
            intro s13 h
            try dsimp only at h
            refine ppI rfl rfl rfl rfl (hSh.1.k 2 rfl _) ?_
            refine rsn 2 (t := (158, [(0, .ref 2)], [.ref 2, .ref 2])) rfl ?_
            refine pgI rfl rfl rfl (hSh.1.k 2 rfl _) ?_
            show RN xs L al (Ev xs L al d) 19 161 [(0, .ref 2)] [.int ((mI m6 2 2)), .ref 2] ((vI (vI m6 2 4 ((mI m6 2 2))) 2 3 s13), S) none (mf, S)
            refine rsn 2 (t := (163, [(0, .ref 2)], [.int ((((mI m6 2 2)) + 1)), .ref 2])) rfl ?_
            refine ppI rfl rfl rfl rfl (hSh.1.k 2 rfl _) ?_
            have h := Option.some.inj h
            subst h
            exact rret rfl ⟨rfl, rfl, rfl, rfl, rfl⟩
          rw [jn] at h
          try dsimp only at h
          by_cases c14 : ((mX m6 1 (((mI m6 2 2)).toNatClampNeg))) = 44
          · rw [if_pos c14] at h
            refine rjf (a := (134, [(0, .ref 2)], [.ref 2])) (b := (130, [(0, .ref 2)], [.ref 2])) rfl rfl (fun q => q c14) ?_
            refine rsn 2 (t := (153, [(0, .ref 2)], [.int 3, .ref 2])) rfl ?_
            exact rsub [(0, .ref 2)] ⟨rfl, trivial⟩ ⟨rfl, trivial⟩ (jp153 3 h)
          · rw [if_neg c14] at h
            refine rjt (a := (134, [(0, .ref 2)], [.ref 2])) (b := (130, [(0, .ref 2)], [.ref 2])) rfl rfl c14 ?_
            refine rsn 1 (t := (135, [(0, .ref 2)], [.ref 2, .ref 2])) rfl ?_
            refine rgR rfl rfl rfl (hSh.1.k 2 rfl _) (hSh.1.r 93 rfl _) ?_
            refine rsn 1 (t := (139, [(0, .ref 2)], [.ref 2, .ref 1, .ref 2])) rfl ?_
            refine pgI rfl rfl rfl (hSh.1.k 2 rfl _) ?_
            show RN xs L al (Ev xs L al d) 19 142 [(0, .ref 2)] [.int ((mI m6 2 2)), .ref 1, .ref 2] ((vI m6 2 4 ((mI m6 2 2))), S) none (mf, S)
            obtain ⟨c15, h⟩ := ck_some h
            refine pxB rfl (Or.inl (hSh.1.k 1 rfl _)) (hSh.1.l 0 rfl _) c15 ?_
            show RN xs L al (Ev xs L al d) 19 143 [(0, .ref 2)] [.int ((mX m6 1 (((mI m6 2 2)).toNatClampNeg))), .ref 2] ((vI m6 2 4 ((mI m6 2 2))), S) none (mf, S)
            refine rsn 1 (t := (145, [(0, .ref 2)], [.int 59, .int ((mX m6 1 (((mI m6 2 2)).toNatClampNeg))), .ref 2])) rfl ?_
            by_cases c16 : ((mX m6 1 (((mI m6 2 2)).toNatClampNeg))) = 59
            · rw [if_pos c16] at h
              refine rjf (a := (152, [(0, .ref 2)], [.ref 2])) (b := (148, [(0, .ref 2)], [.ref 2])) rfl rfl (fun q => q c16) ?_
              refine rsn 2 (t := (153, [(0, .ref 2)], [.int 4, .ref 2])) rfl ?_
              exact rsub [(0, .ref 2)] ⟨rfl, trivial⟩ ⟨rfl, trivial⟩ (jp153 4 h)
            · rw [if_neg c16] at h
              refine rjt (a := (152, [(0, .ref 2)], [.ref 2])) (b := (148, [(0, .ref 2)], [.ref 2])) rfl rfl c16 ?_
              refine rsn 1 (t := (153, [(0, .ref 2)], [.int 5, .ref 2])) rfl ?_
              exact rsub [(0, .ref 2)] ⟨rfl, trivial⟩ ⟨rfl, trivial⟩ (jp153 5 h)
        · rw [if_neg c11] at h
          refine rjf (a := (115, [(0, .ref 2)], [])) (b := (108, [(0, .ref 2)], [])) rfl rfl c11 ?_
          refine rsn 1 (t := (109, [(0, .ref 2)], [.ref 2])) rfl ?_
          obtain ⟨m17, g17, h⟩ := b3_some h
          refine rcV 23 2 [] rfl rfl rfl (hSh.1.k 2 rfl _) (Nat.le_of_ble_eq_true rfl) rfl (e_Reader_readNumber N (by omega) hSh g17) ?_
          show RN xs L al (Ev xs L al d) 19 112 [(0, .ref 2)] [] (m17, S) none (mf, S)
          refine rsn 1 (t := (166, [(0, .ref 2)], [])) rfl ?_
          have h := Option.some.inj h
          subst h
          exact rret rfl ⟨rfl, rfl, rfl, rfl, rfl⟩
      · rw [if_neg c9] at h
        refine rjf (a := (97, [(0, .ref 2)], [])) (b := (90, [(0, .ref 2)], [])) rfl rfl c9 ?_
        refine rsn 1 (t := (91, [(0, .ref 2)], [.ref 2])) rfl ?_
        obtain ⟨m18, g18, h⟩ := b3_some h
        refine rcV 21 2 [] rfl rfl rfl (hSh.1.k 2 rfl _) (Nat.le_of_ble_eq_true rfl) rfl (e_Reader_readWord N (by omega) hSh g18) ?_
        show RN xs L al (Ev xs L al d) 19 94 [(0, .ref 2)] [] (m18, S) none (mf, S)
        refine rsn 1 (t := (166, [(0, .ref 2)], [])) rfl ?_
        have h := Option.some.inj h
        subst h
        exact rret rfl ⟨rfl, rfl, rfl, rfl, rfl⟩
    · rw [if_neg c7] at h
      refine rjf (a := (79, [(0, .ref 2)], [])) (b := (71, [(0, .ref 2)], [])) rfl rfl c7 ?_
      refine rsn 2 (t := (73, [(0, .ref 2)], [.int 0, .ref 2])) rfl ?_
      refine ppI rfl rfl rfl rfl (hSh.1.k 2 rfl _) ?_
      refine rsn 1 (t := (166, [(0, .ref 2)], [])) rfl ?_
      have h := Option.some.inj h
      subst h
      exact rret rfl ⟨rfl, rfl, rfl, rfl, rfl⟩
  have lp0 : ∀ (n : Nat) (m19 : Mm), (f_Reader_step_L0 N S (fun (m6 : Mm) => (if ((mI m6 2 2)) < ((mI m6 2 1)) then b1 (f_Reader_isLetterAt N S ((mI m6 2 2)) (vI m6 2 4 ((mI m6 2 2)))) fun r8 => (if r8 = 0 then b1 (f_Reader_isDigitAt N S ((mI m6 2 2)) (vI m6 2 4 ((mI m6 2 2)))) fun r10 => (if r10 = 0 then ck (ix ((mI m6 2 2)) 400) ((jn (fun (s13 : Int32) => some (vI (vI (vI m6 2 4 ((mI m6 2 2))) 2 3 s13) 2 2 ((((mI m6 2 2)) + 1)))) (fun j153 => if ((mX m6 1 (((mI m6 2 2)).toNatClampNeg))) = 44 then j153 3 else ck (ix ((mI m6 2 2)) 400) ((if ((mX m6 1 (((mI m6 2 2)).toNatClampNeg))) = 59 then j153 4 else j153 5))))) else b3 (f_Reader_readNumber N S (vI m6 2 4 ((mI m6 2 2)))) fun m17 => some m17) else b3 (f_Reader_readWord N S (vI m6 2 4 ((mI m6 2 2)))) fun m18 => some m18) else some (vI (vI m6 2 4 ((mI m6 2 2))) 2 3 0))) n m19) = some mf → RN xs L al (Ev xs L al d) 19 0 [(0, .ref 2)] [] (m19, S) none (mf, S) := by
    intro n
    induction n with
    | zero => intro m19 h; exact absurd h (by simp [f_Reader_step_L0])
    | succ n0 ih0 =>
      intro m19 h
      try dsimp only at h
      rw [f_Reader_step_L0] at h
      try dsimp only at h
      refine rsn 1 (t := (1, [(0, .ref 2)], [.ref 2])) rfl ?_
      refine pgI rfl rfl rfl (hSh.1.k 2 rfl _) ?_
      show RN xs L al (Ev xs L al d) 19 4 [(0, .ref 2)] [.int ((mI m19 2 2))] (m19, S) none (mf, S)
      refine rsn 1 (t := (5, [(0, .ref 2)], [.ref 2, .int ((mI m19 2 2))])) rfl ?_
      refine pgI rfl rfl rfl (hSh.1.k 2 rfl _) ?_
      show RN xs L al (Ev xs L al d) 19 8 [(0, .ref 2)] [.int ((mI m19 2 1)), .int ((mI m19 2 2))] (m19, S) none (mf, S)
      by_cases c20 : ((mI m19 2 1)) ≤ ((mI m19 2 2))
      · rw [if_pos c20] at h
        refine rjt (a := (52, [(0, .ref 2)], [])) (b := (11, [(0, .ref 2)], [])) rfl rfl c20 ?_
        exact rsub [(0, .ref 2)] ⟨rfl, trivial⟩ ⟨rfl, trivial⟩ (ex0 m19 h)
      · rw [if_neg c20] at h
        refine rjf (a := (52, [(0, .ref 2)], [])) (b := (11, [(0, .ref 2)], [])) rfl rfl c20 ?_
        refine rsn 1 (t := (12, [(0, .ref 2)], [.ref 2])) rfl ?_
        refine rgR rfl rfl rfl (hSh.1.k 2 rfl _) (hSh.1.r 93 rfl _) ?_
        refine rsn 1 (t := (16, [(0, .ref 2)], [.ref 2, .ref 1])) rfl ?_
        refine pgI rfl rfl rfl (hSh.1.k 2 rfl _) ?_
        show RN xs L al (Ev xs L al d) 19 19 [(0, .ref 2)] [.int ((mI m19 2 2)), .ref 1] (m19, S) none (mf, S)
        obtain ⟨c21, h⟩ := ck_some h
        refine pxB rfl (Or.inl (hSh.1.k 1 rfl _)) (hSh.1.l 0 rfl _) c21 ?_
        show RN xs L al (Ev xs L al d) 19 20 [(0, .ref 2)] [.int ((mX m19 1 (((mI m19 2 2)).toNatClampNeg)))] (m19, S) none (mf, S)
        refine rsn 1 (t := (22, [(0, .ref 2)], [.int 32, .int ((mX m19 1 (((mI m19 2 2)).toNatClampNeg)))])) rfl ?_
        by_cases c22 : ((mX m19 1 (((mI m19 2 2)).toNatClampNeg))) = 32
        · rw [if_pos c22] at h
          refine rjt (a := (39, [(0, .ref 2)], [])) (b := (25, [(0, .ref 2)], [])) rfl rfl c22 ?_
          refine rsn 2 (t := (41, [(0, .ref 2)], [.ref 2, .ref 2])) rfl ?_
          refine pgI rfl rfl rfl (hSh.1.k 2 rfl _) ?_
          show RN xs L al (Ev xs L al d) 19 44 [(0, .ref 2)] [.int ((mI m19 2 2)), .ref 2] (m19, S) none (mf, S)
          refine rsn 2 (t := (46, [(0, .ref 2)], [.int ((((mI m19 2 2)) + 1)), .ref 2])) rfl ?_
          refine ppI rfl rfl rfl rfl (hSh.1.k 2 rfl _) ?_
          refine rsn 1 (t := (0, [(0, .ref 2)], [])) rfl ?_
          exact rsub [(0, .ref 2)] ⟨rfl, trivial⟩ ⟨rfl, trivial⟩ (ih0 ((vI m19 2 2 ((((mI m19 2 2)) + 1)))) h)
        · rw [if_neg c22] at h
          refine rjf (a := (39, [(0, .ref 2)], [])) (b := (25, [(0, .ref 2)], [])) rfl rfl c22 ?_
          refine rsn 1 (t := (26, [(0, .ref 2)], [.ref 2])) rfl ?_
          refine rgR rfl rfl rfl (hSh.1.k 2 rfl _) (hSh.1.r 93 rfl _) ?_
          refine rsn 1 (t := (30, [(0, .ref 2)], [.ref 2, .ref 1])) rfl ?_
          refine pgI rfl rfl rfl (hSh.1.k 2 rfl _) ?_
          show RN xs L al (Ev xs L al d) 19 33 [(0, .ref 2)] [.int ((mI m19 2 2)), .ref 1] (m19, S) none (mf, S)
          obtain ⟨c23, h⟩ := ck_some h
          refine pxB rfl (Or.inl (hSh.1.k 1 rfl _)) (hSh.1.l 0 rfl _) c23 ?_
          show RN xs L al (Ev xs L al d) 19 34 [(0, .ref 2)] [.int ((mX m19 1 (((mI m19 2 2)).toNatClampNeg)))] (m19, S) none (mf, S)
          refine rsn 1 (t := (36, [(0, .ref 2)], [.int 10, .int ((mX m19 1 (((mI m19 2 2)).toNatClampNeg)))])) rfl ?_
          by_cases c24 : ((mX m19 1 (((mI m19 2 2)).toNatClampNeg))) = 10
          · rw [if_pos c24] at h
            refine rjf (a := (52, [(0, .ref 2)], [])) (b := (39, [(0, .ref 2)], [])) rfl rfl (fun q => q c24) ?_
            refine rsn 2 (t := (41, [(0, .ref 2)], [.ref 2, .ref 2])) rfl ?_
            refine pgI rfl rfl rfl (hSh.1.k 2 rfl _) ?_
            show RN xs L al (Ev xs L al d) 19 44 [(0, .ref 2)] [.int ((mI m19 2 2)), .ref 2] (m19, S) none (mf, S)
            refine rsn 2 (t := (46, [(0, .ref 2)], [.int ((((mI m19 2 2)) + 1)), .ref 2])) rfl ?_
            refine ppI rfl rfl rfl rfl (hSh.1.k 2 rfl _) ?_
            refine rsn 1 (t := (0, [(0, .ref 2)], [])) rfl ?_
            exact rsub [(0, .ref 2)] ⟨rfl, trivial⟩ ⟨rfl, trivial⟩ (ih0 ((vI m19 2 2 ((((mI m19 2 2)) + 1)))) h)
          · rw [if_neg c24] at h
            refine rjt (a := (52, [(0, .ref 2)], [])) (b := (39, [(0, .ref 2)], [])) rfl rfl c24 ?_
            exact rsub [(0, .ref 2)] ⟨rfl, trivial⟩ ⟨rfl, trivial⟩ (ex0 m19 h)
  exact rsub [(0, .ref 2)] ⟨rfl, trivial⟩ ⟨rfl, trivial⟩ (lp0 N m h)
def f_Will_early (N : Nat) (S : St) (x0 : Nat) (m : Mm) : Option (Int32) := some ((((((isl 1 ((mI m x0 0)))) - 1)) &&& ((((mI m x0 6)) ^^^ ((-1))))))
set_option maxRecDepth 20000 in
set_option maxHeartbeats 4000000 in
theorem e_Will_early {xs : Nat → Int32} {L : Nat} {al : Bool} (N : Nat) {d : Nat} (hd : 1 ≤ d) {S : St} (hSh : ShC S) {x0 : Nat} (hx0 : x0 ∈ wKl) {m : Mm} {r0 : Int32} (h : f_Will_early N S x0 m = some r0) : Ev xs L al d 24 [.ref x0] (m, S) (some (.int r0)) (m, S) := by
  obtain ⟨d, rfl⟩ : ∃ e, d = e + 1 := ⟨d - 1, by omega⟩
  refine ev_of (by decide) (Nat.le_of_ble_eq_true rfl) ?_
  rw [f_Will_early] at h
  show RN xs L al (Ev xs L al d) 24 0 [(0, .ref x0)] [] (m, S) (some (.int r0)) (m, S)
  refine rsn 2 (t := (2, [(0, .ref x0)], [.ref x0, .int 1])) rfl ?_
  refine pgI rfl rfl rfl (hSh.kW hx0 _) ?_
  show RN xs L al (Ev xs L al d) 24 5 [(0, .ref x0)] [.int ((mI m x0 0)), .int 1] (m, S) (some (.int r0)) (m, S)
  refine rsn 4 (t := (9, [(0, .ref x0)], [.ref x0, .int ((((isl 1 ((mI m x0 0)))) - 1))])) rfl ?_
  refine pgI rfl rfl rfl (hSh.kW hx0 _) ?_
  show RN xs L al (Ev xs L al d) 24 12 [(0, .ref x0)] [.int ((mI m x0 6)), .int ((((isl 1 ((mI m x0 0)))) - 1))] (m, S) (some (.int r0)) (m, S)
  refine rsn 3 (t := (15, [(0, .ref x0)], [.int ((((((isl 1 ((mI m x0 0)))) - 1)) &&& ((((mI m x0 6)) ^^^ ((-1))))))])) rfl ?_
  have h := Option.some.inj h
  subst h
  exact rret rfl ⟨rfl, rfl, _, _, rfl, rfl, rfl, rfl⟩
def f_Will_hasRoomForHeir (N : Nat) (S : St) (x0 : Nat) (m : Mm) : Option (Int32) := (if 3 ≤ ((mI m x0 0)) then some 0 else some 1)
set_option maxRecDepth 20000 in
set_option maxHeartbeats 4000000 in
theorem e_Will_hasRoomForHeir {xs : Nat → Int32} {L : Nat} {al : Bool} (N : Nat) {d : Nat} (hd : 1 ≤ d) {S : St} (hSh : ShC S) {x0 : Nat} (hx0 : x0 ∈ wKl) {m : Mm} {r0 : Int32} (h : f_Will_hasRoomForHeir N S x0 m = some r0) : Ev xs L al d 27 [.ref x0] (m, S) (some (.int r0)) (m, S) := by
  obtain ⟨d, rfl⟩ : ∃ e, d = e + 1 := ⟨d - 1, by omega⟩
  refine ev_of (by decide) (Nat.le_of_ble_eq_true rfl) ?_
  rw [f_Will_hasRoomForHeir] at h
  show RN xs L al (Ev xs L al d) 27 0 [(0, .ref x0)] [] (m, S) (some (.int r0)) (m, S)
  refine rsn 1 (t := (1, [(0, .ref x0)], [.ref x0])) rfl ?_
  refine pgI rfl rfl rfl (hSh.kW hx0 _) ?_
  show RN xs L al (Ev xs L al d) 27 4 [(0, .ref x0)] [.int ((mI m x0 0))] (m, S) (some (.int r0)) (m, S)
  refine rsn 1 (t := (5, [(0, .ref x0)], [.int 3, .int ((mI m x0 0))])) rfl ?_
  by_cases c1 : 3 ≤ ((mI m x0 0))
  · rw [if_pos c1] at h
    refine rjt (a := (12, [(0, .ref x0)], [])) (b := (8, [(0, .ref x0)], [])) rfl rfl c1 ?_
    refine rsn 1 (t := (13, [(0, .ref x0)], [.int 0])) rfl ?_
    have h := Option.some.inj h
    subst h
    exact rret rfl ⟨rfl, rfl, _, _, rfl, rfl, rfl, rfl⟩
  · rw [if_neg c1] at h
    refine rjf (a := (12, [(0, .ref x0)], [])) (b := (8, [(0, .ref x0)], [])) rfl rfl c1 ?_
    refine rsn 2 (t := (13, [(0, .ref x0)], [.int 1])) rfl ?_
    have h := Option.some.inj h
    subst h
    exact rret rfl ⟨rfl, rfl, _, _, rfl, rfl, rfl, rfl⟩
def f_Reader_isName (N : Nat) (S : St) (m : Mm) : Option (Int32) := (if ((mI m 2 3)) = 1 then (if ((mJ m 2 6)) = 0 then some 0 else (if ((mJ m 2 6)) = 1751476594 then some 0 else (if ((mJ m 2 6)) = 1818326117 then some 0 else (if ((mJ m 2 6)) = 6578553 then some 0 else (if ((mJ m 2 6)) = 499967946343 then some 0 else (if ((mJ m 2 6)) = 427071202675 then some 0 else (if ((mJ m 2 6)) = 1852796517 then some 0 else (if ((mJ m 2 6)) = 1752132708 then some 0 else (if ((mJ m 2 6)) = 1650549611 then some 0 else some 1))))))))) else some 0)
set_option maxRecDepth 20000 in
set_option maxHeartbeats 4000000 in
theorem e_Reader_isName {xs : Nat → Int32} {L : Nat} {al : Bool} (N : Nat) {d : Nat} (hd : 1 ≤ d) {S : St} (hSh : ShC S) {m : Mm} {r0 : Int32} (h : f_Reader_isName N S m = some r0) : Ev xs L al d 28 [.ref 2] (m, S) (some (.int r0)) (m, S) := by
  obtain ⟨d, rfl⟩ : ∃ e, d = e + 1 := ⟨d - 1, by omega⟩
  refine ev_of (by decide) (Nat.le_of_ble_eq_true rfl) ?_
  rw [f_Reader_isName] at h
  show RN xs L al (Ev xs L al d) 28 0 [(0, .ref 2)] [] (m, S) (some (.int r0)) (m, S)
  refine rsn 1 (t := (1, [(0, .ref 2)], [.ref 2])) rfl ?_
  refine pgI rfl rfl rfl (hSh.1.k 2 rfl _) ?_
  show RN xs L al (Ev xs L al d) 28 4 [(0, .ref 2)] [.int ((mI m 2 3))] (m, S) (some (.int r0)) (m, S)
  refine rsn 1 (t := (5, [(0, .ref 2)], [.int 1, .int ((mI m 2 3))])) rfl ?_
  by_cases c1 : ((mI m 2 3)) = 1
  · rw [if_pos c1] at h
    refine rjf (a := (109, [(0, .ref 2)], [])) (b := (8, [(0, .ref 2)], [])) rfl rfl (fun q => q c1) ?_
    refine rsn 1 (t := (9, [(0, .ref 2)], [.ref 2])) rfl ?_
    refine pgJ rfl rfl rfl (hSh.1.k 2 rfl _) ?_
    show RN xs L al (Ev xs L al d) 28 12 [(0, .ref 2)] [.long ((mJ m 2 6))] (m, S) (some (.int r0)) (m, S)
    refine rsn 2 (t := (14, [(0, .ref 2)], [.int ((lg_cmp ((mJ m 2 6)) 0))])) rfl ?_
    by_cases c2 : ((mJ m 2 6)) = 0
    · rw [if_pos c2] at h
      refine rjt (a := (109, [(0, .ref 2)], [])) (b := (17, [(0, .ref 2)], [])) rfl rfl (lgc_eq.mpr c2) ?_
      refine rsn 1 (t := (110, [(0, .ref 2)], [.int 0])) rfl ?_
      have h := Option.some.inj h
      subst h
      exact rret rfl ⟨rfl, rfl, _, _, rfl, rfl, rfl, rfl⟩
    · rw [if_neg c2] at h
      refine rjf (a := (109, [(0, .ref 2)], [])) (b := (17, [(0, .ref 2)], [])) rfl rfl (fun q => c2 (lgc_eq.mp q)) ?_
      refine rsn 1 (t := (18, [(0, .ref 2)], [.ref 2])) rfl ?_
      refine pgJ rfl rfl rfl (hSh.1.k 2 rfl _) ?_
      show RN xs L al (Ev xs L al d) 28 21 [(0, .ref 2)] [.long ((mJ m 2 6))] (m, S) (some (.int r0)) (m, S)
      refine rsn 2 (t := (25, [(0, .ref 2)], [.int ((lg_cmp ((mJ m 2 6)) 1751476594))])) rfl ?_
      by_cases c3 : ((mJ m 2 6)) = 1751476594
      · rw [if_pos c3] at h
        refine rjt (a := (109, [(0, .ref 2)], [])) (b := (28, [(0, .ref 2)], [])) rfl rfl (lgc_eq.mpr c3) ?_
        refine rsn 1 (t := (110, [(0, .ref 2)], [.int 0])) rfl ?_
        have h := Option.some.inj h
        subst h
        exact rret rfl ⟨rfl, rfl, _, _, rfl, rfl, rfl, rfl⟩
      · rw [if_neg c3] at h
        refine rjf (a := (109, [(0, .ref 2)], [])) (b := (28, [(0, .ref 2)], [])) rfl rfl (fun q => c3 (lgc_eq.mp q)) ?_
        refine rsn 1 (t := (29, [(0, .ref 2)], [.ref 2])) rfl ?_
        refine pgJ rfl rfl rfl (hSh.1.k 2 rfl _) ?_
        show RN xs L al (Ev xs L al d) 28 32 [(0, .ref 2)] [.long ((mJ m 2 6))] (m, S) (some (.int r0)) (m, S)
        refine rsn 2 (t := (36, [(0, .ref 2)], [.int ((lg_cmp ((mJ m 2 6)) 1818326117))])) rfl ?_
        by_cases c4 : ((mJ m 2 6)) = 1818326117
        · rw [if_pos c4] at h
          refine rjt (a := (109, [(0, .ref 2)], [])) (b := (39, [(0, .ref 2)], [])) rfl rfl (lgc_eq.mpr c4) ?_
          refine rsn 1 (t := (110, [(0, .ref 2)], [.int 0])) rfl ?_
          have h := Option.some.inj h
          subst h
          exact rret rfl ⟨rfl, rfl, _, _, rfl, rfl, rfl, rfl⟩
        · rw [if_neg c4] at h
          refine rjf (a := (109, [(0, .ref 2)], [])) (b := (39, [(0, .ref 2)], [])) rfl rfl (fun q => c4 (lgc_eq.mp q)) ?_
          refine rsn 1 (t := (40, [(0, .ref 2)], [.ref 2])) rfl ?_
          refine pgJ rfl rfl rfl (hSh.1.k 2 rfl _) ?_
          show RN xs L al (Ev xs L al d) 28 43 [(0, .ref 2)] [.long ((mJ m 2 6))] (m, S) (some (.int r0)) (m, S)
          refine rsn 2 (t := (47, [(0, .ref 2)], [.int ((lg_cmp ((mJ m 2 6)) 6578553))])) rfl ?_
          by_cases c5 : ((mJ m 2 6)) = 6578553
          · rw [if_pos c5] at h
            refine rjt (a := (109, [(0, .ref 2)], [])) (b := (50, [(0, .ref 2)], [])) rfl rfl (lgc_eq.mpr c5) ?_
            refine rsn 1 (t := (110, [(0, .ref 2)], [.int 0])) rfl ?_
            have h := Option.some.inj h
            subst h
            exact rret rfl ⟨rfl, rfl, _, _, rfl, rfl, rfl, rfl⟩
          · rw [if_neg c5] at h
            refine rjf (a := (109, [(0, .ref 2)], [])) (b := (50, [(0, .ref 2)], [])) rfl rfl (fun q => c5 (lgc_eq.mp q)) ?_
            refine rsn 1 (t := (51, [(0, .ref 2)], [.ref 2])) rfl ?_
            refine pgJ rfl rfl rfl (hSh.1.k 2 rfl _) ?_
            show RN xs L al (Ev xs L al d) 28 54 [(0, .ref 2)] [.long ((mJ m 2 6))] (m, S) (some (.int r0)) (m, S)
            refine rsn 2 (t := (58, [(0, .ref 2)], [.int ((lg_cmp ((mJ m 2 6)) 499967946343))])) rfl ?_
            by_cases c6 : ((mJ m 2 6)) = 499967946343
            · rw [if_pos c6] at h
              refine rjt (a := (109, [(0, .ref 2)], [])) (b := (61, [(0, .ref 2)], [])) rfl rfl (lgc_eq.mpr c6) ?_
              refine rsn 1 (t := (110, [(0, .ref 2)], [.int 0])) rfl ?_
              have h := Option.some.inj h
              subst h
              exact rret rfl ⟨rfl, rfl, _, _, rfl, rfl, rfl, rfl⟩
            · rw [if_neg c6] at h
              refine rjf (a := (109, [(0, .ref 2)], [])) (b := (61, [(0, .ref 2)], [])) rfl rfl (fun q => c6 (lgc_eq.mp q)) ?_
              refine rsn 1 (t := (62, [(0, .ref 2)], [.ref 2])) rfl ?_
              refine pgJ rfl rfl rfl (hSh.1.k 2 rfl _) ?_
              show RN xs L al (Ev xs L al d) 28 65 [(0, .ref 2)] [.long ((mJ m 2 6))] (m, S) (some (.int r0)) (m, S)
              refine rsn 2 (t := (69, [(0, .ref 2)], [.int ((lg_cmp ((mJ m 2 6)) 427071202675))])) rfl ?_
              by_cases c7 : ((mJ m 2 6)) = 427071202675
              · rw [if_pos c7] at h
                refine rjt (a := (109, [(0, .ref 2)], [])) (b := (72, [(0, .ref 2)], [])) rfl rfl (lgc_eq.mpr c7) ?_
                refine rsn 1 (t := (110, [(0, .ref 2)], [.int 0])) rfl ?_
                have h := Option.some.inj h
                subst h
                exact rret rfl ⟨rfl, rfl, _, _, rfl, rfl, rfl, rfl⟩
              · rw [if_neg c7] at h
                refine rjf (a := (109, [(0, .ref 2)], [])) (b := (72, [(0, .ref 2)], [])) rfl rfl (fun q => c7 (lgc_eq.mp q)) ?_
                refine rsn 1 (t := (73, [(0, .ref 2)], [.ref 2])) rfl ?_
                refine pgJ rfl rfl rfl (hSh.1.k 2 rfl _) ?_
                show RN xs L al (Ev xs L al d) 28 76 [(0, .ref 2)] [.long ((mJ m 2 6))] (m, S) (some (.int r0)) (m, S)
                refine rsn 2 (t := (80, [(0, .ref 2)], [.int ((lg_cmp ((mJ m 2 6)) 1852796517))])) rfl ?_
                by_cases c8 : ((mJ m 2 6)) = 1852796517
                · rw [if_pos c8] at h
                  refine rjt (a := (109, [(0, .ref 2)], [])) (b := (83, [(0, .ref 2)], [])) rfl rfl (lgc_eq.mpr c8) ?_
                  refine rsn 1 (t := (110, [(0, .ref 2)], [.int 0])) rfl ?_
                  have h := Option.some.inj h
                  subst h
                  exact rret rfl ⟨rfl, rfl, _, _, rfl, rfl, rfl, rfl⟩
                · rw [if_neg c8] at h
                  refine rjf (a := (109, [(0, .ref 2)], [])) (b := (83, [(0, .ref 2)], [])) rfl rfl (fun q => c8 (lgc_eq.mp q)) ?_
                  refine rsn 1 (t := (84, [(0, .ref 2)], [.ref 2])) rfl ?_
                  refine pgJ rfl rfl rfl (hSh.1.k 2 rfl _) ?_
                  show RN xs L al (Ev xs L al d) 28 87 [(0, .ref 2)] [.long ((mJ m 2 6))] (m, S) (some (.int r0)) (m, S)
                  refine rsn 2 (t := (91, [(0, .ref 2)], [.int ((lg_cmp ((mJ m 2 6)) 1752132708))])) rfl ?_
                  by_cases c9 : ((mJ m 2 6)) = 1752132708
                  · rw [if_pos c9] at h
                    refine rjt (a := (109, [(0, .ref 2)], [])) (b := (94, [(0, .ref 2)], [])) rfl rfl (lgc_eq.mpr c9) ?_
                    refine rsn 1 (t := (110, [(0, .ref 2)], [.int 0])) rfl ?_
                    have h := Option.some.inj h
                    subst h
                    exact rret rfl ⟨rfl, rfl, _, _, rfl, rfl, rfl, rfl⟩
                  · rw [if_neg c9] at h
                    refine rjf (a := (109, [(0, .ref 2)], [])) (b := (94, [(0, .ref 2)], [])) rfl rfl (fun q => c9 (lgc_eq.mp q)) ?_
                    refine rsn 1 (t := (95, [(0, .ref 2)], [.ref 2])) rfl ?_
                    refine pgJ rfl rfl rfl (hSh.1.k 2 rfl _) ?_
                    show RN xs L al (Ev xs L al d) 28 98 [(0, .ref 2)] [.long ((mJ m 2 6))] (m, S) (some (.int r0)) (m, S)
                    refine rsn 2 (t := (102, [(0, .ref 2)], [.int ((lg_cmp ((mJ m 2 6)) 1650549611))])) rfl ?_
                    by_cases c10 : ((mJ m 2 6)) = 1650549611
                    · rw [if_pos c10] at h
                      refine rjt (a := (109, [(0, .ref 2)], [])) (b := (105, [(0, .ref 2)], [])) rfl rfl (lgc_eq.mpr c10) ?_
                      refine rsn 1 (t := (110, [(0, .ref 2)], [.int 0])) rfl ?_
                      have h := Option.some.inj h
                      subst h
                      exact rret rfl ⟨rfl, rfl, _, _, rfl, rfl, rfl, rfl⟩
                    · rw [if_neg c10] at h
                      refine rjf (a := (109, [(0, .ref 2)], [])) (b := (105, [(0, .ref 2)], [])) rfl rfl (fun q => c10 (lgc_eq.mp q)) ?_
                      refine rsn 2 (t := (110, [(0, .ref 2)], [.int 1])) rfl ?_
                      have h := Option.some.inj h
                      subst h
                      exact rret rfl ⟨rfl, rfl, _, _, rfl, rfl, rfl, rfl⟩
  · rw [if_neg c1] at h
    refine rjt (a := (109, [(0, .ref 2)], [])) (b := (8, [(0, .ref 2)], [])) rfl rfl c1 ?_
    refine rsn 1 (t := (110, [(0, .ref 2)], [.int 0])) rfl ?_
    have h := Option.some.inj h
    subst h
    exact rret rfl ⟨rfl, rfl, _, _, rfl, rfl, rfl, rfl⟩
def f_Will_heirNamed_L2 (N : Nat) (S : St) (x0 : Nat) (x1 : Int64) (m : Mm) (k2 : Int32 → Option (Int32)) : Nat → Int32 → Option (Int32)
  | 0, _ => none
  | n2 + 1, x3 => (if ((mI m x0 0)) ≤ x3 then k2 x3 else ck (ix x3 3) ((if ((mYy m ((x0 + 1)) x3.toNatClampNeg)) = x1 then some x3 else f_Will_heirNamed_L2 N S x0 x1 m k2 n2 ((x3 + 1)))))
def f_Will_heirNamed (N : Nat) (S : St) (x0 : Nat) (x1 : Int64) (m : Mm) : Option (Int32) := f_Will_heirNamed_L2 N S x0 x1 m (fun (z4_3 : Int32) => some ((-1))) N 0
set_option maxRecDepth 20000 in
set_option maxHeartbeats 4000000 in
theorem e_Will_heirNamed {xs : Nat → Int32} {L : Nat} {al : Bool} (N : Nat) {d : Nat} (hd : 1 ≤ d) {S : St} (hSh : ShC S) {x0 : Nat} {x1 : Int64} (hx0 : x0 ∈ wKl) {m : Mm} {r0 : Int32} (h : f_Will_heirNamed N S x0 x1 m = some r0) : Ev xs L al d 29 [.ref x0, .long x1] (m, S) (some (.int r0)) (m, S) := by
  obtain ⟨d, rfl⟩ : ∃ e, d = e + 1 := ⟨d - 1, by omega⟩
  refine ev_of (by decide) (Nat.le_of_ble_eq_true rfl) ?_
  rw [f_Will_heirNamed] at h
  show RN xs L al (Ev xs L al d) 29 0 [(0, .ref x0), (1, .long x1)] [] (m, S) (some (.int r0)) (m, S)
  refine rsn 2 (t := (2, [(3, .int 0), (0, .ref x0), (1, .long x1)], [])) rfl ?_
  have ex2 : ∀ (z4_3 : Int32), (some ((-1))) = some r0 → RN xs L al (Ev xs L al d) 29 29 [] [] (m, S) (some (.int r0)) (m, S) := by
    intro z4_3 h
    try dsimp only at h
    refine rsn 1 (t := (30, [], [.int ((-1))])) rfl ?_
    have h := Option.some.inj h
    subst h
    exact rret rfl ⟨rfl, rfl, _, _, rfl, rfl, rfl, rfl⟩
  have lp2 : ∀ (n : Nat) (y5_3 : Int32), (f_Will_heirNamed_L2 N S x0 x1 m (fun (z4_3 : Int32) => some ((-1))) n y5_3) = some r0 → RN xs L al (Ev xs L al d) 29 2 [(0, .ref x0), (1, .long x1), (3, .int y5_3)] [] (m, S) (some (.int r0)) (m, S) := by
    intro n
    induction n with
    | zero => intro y5_3 h; exact absurd h (by simp [f_Will_heirNamed_L2])
    | succ n2 ih2 =>
      intro y5_3 h
      try dsimp only at h
      rw [f_Will_heirNamed_L2] at h
      try dsimp only at h
      refine rsn 2 (t := (4, [(0, .ref x0), (1, .long x1), (3, .int y5_3)], [.ref x0, .int y5_3])) rfl ?_
      refine pgI rfl rfl rfl (hSh.kW hx0 _) ?_
      show RN xs L al (Ev xs L al d) 29 7 [(0, .ref x0), (1, .long x1), (3, .int y5_3)] [.int ((mI m x0 0)), .int y5_3] (m, S) (some (.int r0)) (m, S)
      by_cases c6 : ((mI m x0 0)) ≤ y5_3
      · rw [if_pos c6] at h
        refine rjt (a := (29, [(0, .ref x0), (1, .long x1), (3, .int y5_3)], [])) (b := (10, [(0, .ref x0), (1, .long x1), (3, .int y5_3)], [])) rfl rfl c6 ?_
        exact rsub [] trivial trivial (ex2 y5_3 h)
      · rw [if_neg c6] at h
        refine rjf (a := (29, [(0, .ref x0), (1, .long x1), (3, .int y5_3)], [])) (b := (10, [(0, .ref x0), (1, .long x1), (3, .int y5_3)], [])) rfl rfl c6 ?_
        refine rsn 1 (t := (11, [(0, .ref x0), (1, .long x1), (3, .int y5_3)], [.ref x0])) rfl ?_
        refine rgR rfl rfl rfl (hSh.kW hx0 _) (hSh.rWa1 hx0 _) ?_
        refine rsn 1 (t := (15, [(0, .ref x0), (1, .long x1), (3, .int y5_3)], [.int y5_3, .ref ((x0 + 1))])) rfl ?_
        obtain ⟨c7, h⟩ := ck_some h
        refine pxJ rfl (hSh.kWa1 hx0 _) (hSh.lWa1 hx0 _) c7 ?_
        show RN xs L al (Ev xs L al d) 29 16 [(0, .ref x0), (1, .long x1), (3, .int y5_3)] [.long ((mYy m ((x0 + 1)) y5_3.toNatClampNeg))] (m, S) (some (.int r0)) (m, S)
        refine rsn 2 (t := (18, [(0, .ref x0), (1, .long x1), (3, .int y5_3)], [.int ((lg_cmp ((mYy m ((x0 + 1)) y5_3.toNatClampNeg)) x1))])) rfl ?_
        by_cases c8 : ((mYy m ((x0 + 1)) y5_3.toNatClampNeg)) = x1
        · rw [if_pos c8] at h
          refine rjf (a := (23, [(0, .ref x0), (1, .long x1), (3, .int y5_3)], [])) (b := (21, [(0, .ref x0), (1, .long x1), (3, .int y5_3)], [])) rfl rfl (fun q => q (lgc_eq.mpr c8)) ?_
          refine rsn 1 (t := (22, [(0, .ref x0), (1, .long x1), (3, .int y5_3)], [.int y5_3])) rfl ?_
          have h := Option.some.inj h
          subst h
          exact rret rfl ⟨rfl, rfl, _, _, rfl, rfl, rfl, rfl⟩
        · rw [if_neg c8] at h
          refine rjt (a := (23, [(0, .ref x0), (1, .long x1), (3, .int y5_3)], [])) (b := (21, [(0, .ref x0), (1, .long x1), (3, .int y5_3)], [])) rfl rfl (fun q => c8 (lgc_eq.mp q)) ?_
          refine rsn 2 (t := (2, [(3, .int ((y5_3 + 1))), (0, .ref x0), (1, .long x1)], [])) rfl ?_
          exact rsub [(0, .ref x0), (1, .long x1), (3, .int ((y5_3 + 1)))] ⟨rfl, ⟨rfl, ⟨rfl, trivial⟩⟩⟩ ⟨rfl, ⟨rfl, ⟨rfl, trivial⟩⟩⟩ (ih2 ((y5_3 + 1)) h)
  exact rsub [(0, .ref x0), (1, .long x1), (3, .int 0)] ⟨rfl, ⟨rfl, ⟨rfl, trivial⟩⟩⟩ ⟨rfl, ⟨rfl, ⟨rfl, trivial⟩⟩⟩ (lp2 N 0 h)
def f_Reader_isNumber (N : Nat) (S : St) (x1 : Int32) (x2 : Int32) (m : Mm) : Option (Int32) := (if ((mI m 2 3)) = 2 then (if ((mI m 2 5)) < x1 then some 0 else (if x2 < ((mI m 2 5)) then some 0 else some 1)) else some 0)
set_option maxRecDepth 20000 in
set_option maxHeartbeats 4000000 in
theorem e_Reader_isNumber {xs : Nat → Int32} {L : Nat} {al : Bool} (N : Nat) {d : Nat} (hd : 1 ≤ d) {S : St} (hSh : ShC S) {x1 : Int32} {x2 : Int32} {m : Mm} {r0 : Int32} (h : f_Reader_isNumber N S x1 x2 m = some r0) : Ev xs L al d 30 [.ref 2, .int x1, .int x2] (m, S) (some (.int r0)) (m, S) := by
  obtain ⟨d, rfl⟩ : ∃ e, d = e + 1 := ⟨d - 1, by omega⟩
  refine ev_of (by decide) (Nat.le_of_ble_eq_true rfl) ?_
  rw [f_Reader_isNumber] at h
  show RN xs L al (Ev xs L al d) 30 0 [(0, .ref 2), (1, .int x1), (2, .int x2)] [] (m, S) (some (.int r0)) (m, S)
  refine rsn 1 (t := (1, [(0, .ref 2), (1, .int x1), (2, .int x2)], [.ref 2])) rfl ?_
  refine pgI rfl rfl rfl (hSh.1.k 2 rfl _) ?_
  show RN xs L al (Ev xs L al d) 30 4 [(0, .ref 2), (1, .int x1), (2, .int x2)] [.int ((mI m 2 3))] (m, S) (some (.int r0)) (m, S)
  refine rsn 1 (t := (5, [(0, .ref 2), (1, .int x1), (2, .int x2)], [.int 2, .int ((mI m 2 3))])) rfl ?_
  by_cases c1 : ((mI m 2 3)) = 2
  · rw [if_pos c1] at h
    refine rjf (a := (28, [(0, .ref 2), (1, .int x1), (2, .int x2)], [])) (b := (8, [(0, .ref 2), (1, .int x1), (2, .int x2)], [])) rfl rfl (fun q => q c1) ?_
    refine rsn 1 (t := (9, [(0, .ref 2), (1, .int x1), (2, .int x2)], [.ref 2])) rfl ?_
    refine pgI rfl rfl rfl (hSh.1.k 2 rfl _) ?_
    show RN xs L al (Ev xs L al d) 30 12 [(0, .ref 2), (1, .int x1), (2, .int x2)] [.int ((mI m 2 5))] (m, S) (some (.int r0)) (m, S)
    refine rsn 1 (t := (13, [(0, .ref 2), (1, .int x1), (2, .int x2)], [.int x1, .int ((mI m 2 5))])) rfl ?_
    by_cases c2 : ((mI m 2 5)) < x1
    · rw [if_pos c2] at h
      refine rjt (a := (28, [(0, .ref 2), (1, .int x1), (2, .int x2)], [])) (b := (16, [(0, .ref 2), (1, .int x1), (2, .int x2)], [])) rfl rfl c2 ?_
      refine rsn 1 (t := (29, [(0, .ref 2), (1, .int x1), (2, .int x2)], [.int 0])) rfl ?_
      have h := Option.some.inj h
      subst h
      exact rret rfl ⟨rfl, rfl, _, _, rfl, rfl, rfl, rfl⟩
    · rw [if_neg c2] at h
      refine rjf (a := (28, [(0, .ref 2), (1, .int x1), (2, .int x2)], [])) (b := (16, [(0, .ref 2), (1, .int x1), (2, .int x2)], [])) rfl rfl c2 ?_
      refine rsn 1 (t := (17, [(0, .ref 2), (1, .int x1), (2, .int x2)], [.ref 2])) rfl ?_
      refine pgI rfl rfl rfl (hSh.1.k 2 rfl _) ?_
      show RN xs L al (Ev xs L al d) 30 20 [(0, .ref 2), (1, .int x1), (2, .int x2)] [.int ((mI m 2 5))] (m, S) (some (.int r0)) (m, S)
      refine rsn 1 (t := (21, [(0, .ref 2), (1, .int x1), (2, .int x2)], [.int x2, .int ((mI m 2 5))])) rfl ?_
      by_cases c3 : x2 < ((mI m 2 5))
      · rw [if_pos c3] at h
        refine rjt (a := (28, [(0, .ref 2), (1, .int x1), (2, .int x2)], [])) (b := (24, [(0, .ref 2), (1, .int x1), (2, .int x2)], [])) rfl rfl c3 ?_
        refine rsn 1 (t := (29, [(0, .ref 2), (1, .int x1), (2, .int x2)], [.int 0])) rfl ?_
        have h := Option.some.inj h
        subst h
        exact rret rfl ⟨rfl, rfl, _, _, rfl, rfl, rfl, rfl⟩
      · rw [if_neg c3] at h
        refine rjf (a := (28, [(0, .ref 2), (1, .int x1), (2, .int x2)], [])) (b := (24, [(0, .ref 2), (1, .int x1), (2, .int x2)], [])) rfl rfl c3 ?_
        refine rsn 2 (t := (29, [(0, .ref 2), (1, .int x1), (2, .int x2)], [.int 1])) rfl ?_
        have h := Option.some.inj h
        subst h
        exact rret rfl ⟨rfl, rfl, _, _, rfl, rfl, rfl, rfl⟩
  · rw [if_neg c1] at h
    refine rjt (a := (28, [(0, .ref 2), (1, .int x1), (2, .int x2)], [])) (b := (8, [(0, .ref 2), (1, .int x1), (2, .int x2)], [])) rfl rfl c1 ?_
    refine rsn 1 (t := (29, [(0, .ref 2), (1, .int x1), (2, .int x2)], [.int 0])) rfl ?_
    have h := Option.some.inj h
    subst h
    exact rret rfl ⟨rfl, rfl, _, _, rfl, rfl, rfl, rfl⟩
def f_Will_putWorth (N : Nat) (S : St) (x0 : Nat) (x1 : Int32) (x2 : Int32) (m : Mm) : Option (Mm) := b1 (f_Will_hasRoomForHeir N S x0 m) fun r1 => (if r1 = 0 then some m else (if x1 < 0 then some m else (if 3 ≤ x1 then some m else ck (ix ((((((mI m x0 0)) * 3)) + x1)) 9) (some (vX m ((x0 + 2)) (((((((mI m x0 0)) * 3)) + x1)).toNatClampNeg) x2)))))
set_option maxRecDepth 20000 in
set_option maxHeartbeats 4000000 in
theorem e_Will_putWorth {xs : Nat → Int32} {L : Nat} {al : Bool} (N : Nat) {d : Nat} (hd : 2 ≤ d) {S : St} (hSh : ShC S) {x0 : Nat} {x1 : Int32} {x2 : Int32} (hx0 : x0 ∈ wKl) {m : Mm} {mf : Mm} (h : f_Will_putWorth N S x0 x1 x2 m = some mf) : Ev xs L al d 31 [.ref x0, .int x1, .int x2] (m, S) none (mf, S) := by
  obtain ⟨d, rfl⟩ : ∃ e, d = e + 1 := ⟨d - 1, by omega⟩
  refine ev_of (by decide) (Nat.le_of_ble_eq_true rfl) ?_
  rw [f_Will_putWorth] at h
  show RN xs L al (Ev xs L al d) 31 0 [(0, .ref x0), (1, .int x1), (2, .int x2)] [] (m, S) none (mf, S)
  refine rsn 1 (t := (1, [(0, .ref x0), (1, .int x1), (2, .int x2)], [.ref x0])) rfl ?_
  obtain ⟨r1, g1, h⟩ := b1_some h
  refine rcV 27 x0 [] rfl rfl rfl (hSh.kW hx0 _) (Nat.le_of_ble_eq_true rfl) rfl (e_Will_hasRoomForHeir N (by omega) hSh hx0 g1) ?_
  show RN xs L al (Ev xs L al d) 31 4 [(0, .ref x0), (1, .int x1), (2, .int x2)] [.int r1] (m, S) none (mf, S)
  by_cases c2 : r1 = 0
  · rw [if_pos c2] at h
    refine rjt (a := (30, [(0, .ref x0), (1, .int x1), (2, .int x2)], [])) (b := (7, [(0, .ref x0), (1, .int x1), (2, .int x2)], [])) rfl rfl c2 ?_
    have h := Option.some.inj h
    subst h
    exact rret rfl ⟨rfl, rfl, rfl, rfl, rfl⟩
  · rw [if_neg c2] at h
    refine rjf (a := (30, [(0, .ref x0), (1, .int x1), (2, .int x2)], [])) (b := (7, [(0, .ref x0), (1, .int x1), (2, .int x2)], [])) rfl rfl c2 ?_
    refine rsn 1 (t := (8, [(0, .ref x0), (1, .int x1), (2, .int x2)], [.int x1])) rfl ?_
    by_cases c3 : x1 < 0
    · rw [if_pos c3] at h
      refine rjt (a := (30, [(0, .ref x0), (1, .int x1), (2, .int x2)], [])) (b := (11, [(0, .ref x0), (1, .int x1), (2, .int x2)], [])) rfl rfl c3 ?_
      have h := Option.some.inj h
      subst h
      exact rret rfl ⟨rfl, rfl, rfl, rfl, rfl⟩
    · rw [if_neg c3] at h
      refine rjf (a := (30, [(0, .ref x0), (1, .int x1), (2, .int x2)], [])) (b := (11, [(0, .ref x0), (1, .int x1), (2, .int x2)], [])) rfl rfl c3 ?_
      refine rsn 2 (t := (13, [(0, .ref x0), (1, .int x1), (2, .int x2)], [.int 3, .int x1])) rfl ?_
      by_cases c4 : 3 ≤ x1
      · rw [if_pos c4] at h
        refine rjt (a := (30, [(0, .ref x0), (1, .int x1), (2, .int x2)], [])) (b := (16, [(0, .ref x0), (1, .int x1), (2, .int x2)], [])) rfl rfl c4 ?_
        have h := Option.some.inj h
        subst h
        exact rret rfl ⟨rfl, rfl, rfl, rfl, rfl⟩
      · rw [if_neg c4] at h
        refine rjf (a := (30, [(0, .ref x0), (1, .int x1), (2, .int x2)], [])) (b := (16, [(0, .ref x0), (1, .int x1), (2, .int x2)], [])) rfl rfl c4 ?_
        refine rsn 1 (t := (17, [(0, .ref x0), (1, .int x1), (2, .int x2)], [.ref x0])) rfl ?_
        refine rgR rfl rfl rfl (hSh.kW hx0 _) (hSh.rWa2 hx0 _) ?_
        refine rsn 1 (t := (21, [(0, .ref x0), (1, .int x1), (2, .int x2)], [.ref x0, .ref ((x0 + 2))])) rfl ?_
        refine pgI rfl rfl rfl (hSh.kW hx0 _) ?_
        show RN xs L al (Ev xs L al d) 31 24 [(0, .ref x0), (1, .int x1), (2, .int x2)] [.int ((mI m x0 0)), .ref ((x0 + 2))] (m, S) none (mf, S)
        refine rsn 5 (t := (29, [(0, .ref x0), (1, .int x1), (2, .int x2)], [.int x2, .int ((((((mI m x0 0)) * 3)) + x1)), .ref ((x0 + 2))])) rfl ?_
        obtain ⟨c5, h⟩ := ck_some h
        refine psI rfl (hSh.kWa2 hx0 _) (hSh.lWa2 hx0 _) c5 ?_
        have h := Option.some.inj h
        subst h
        exact rret rfl ⟨rfl, rfl, rfl, rfl, rfl⟩
def f_Will_addHeir (N : Nat) (S : St) (x0 : Nat) (x1 : Int64) (x3 : Int32) (m : Mm) : Option (Mm) := b1 (f_Will_hasRoomForHeir N S x0 m) fun r1 => (if r1 = 0 then some m else ck (ix ((mI m x0 0)) 3) ((if x3 = 0 then some (vI (vY m ((x0 + 1)) (((mI m x0 0)).toNatClampNeg) x1) x0 0 ((((mI m x0 0)) + 1))) else some (vI (vI (vY m ((x0 + 1)) (((mI m x0 0)).toNatClampNeg) x1) x0 6 ((((mI m x0 6)) ||| ((isl 1 ((mI m x0 0))))))) x0 0 ((((mI (vI (vY m ((x0 + 1)) (((mI m x0 0)).toNatClampNeg) x1) x0 6 ((((mI m x0 6)) ||| ((isl 1 ((mI m x0 0))))))) x0 0)) + 1))))))
set_option maxRecDepth 20000 in
set_option maxHeartbeats 4000000 in
theorem e_Will_addHeir {xs : Nat → Int32} {L : Nat} {al : Bool} (N : Nat) {d : Nat} (hd : 2 ≤ d) {S : St} (hSh : ShC S) {x0 : Nat} {x1 : Int64} {x3 : Int32} (hx0 : x0 ∈ wKl) {m : Mm} {mf : Mm} (h : f_Will_addHeir N S x0 x1 x3 m = some mf) : Ev xs L al d 32 [.ref x0, .long x1, .int x3] (m, S) none (mf, S) := by
  obtain ⟨d, rfl⟩ : ∃ e, d = e + 1 := ⟨d - 1, by omega⟩
  refine ev_of (by decide) (Nat.le_of_ble_eq_true rfl) ?_
  rw [f_Will_addHeir] at h
  show RN xs L al (Ev xs L al d) 32 0 [(0, .ref x0), (1, .long x1), (3, .int x3)] [] (m, S) none (mf, S)
  refine rsn 1 (t := (1, [(0, .ref x0), (1, .long x1), (3, .int x3)], [.ref x0])) rfl ?_
  obtain ⟨r1, g1, h⟩ := b1_some h
  refine rcV 27 x0 [] rfl rfl rfl (hSh.kW hx0 _) (Nat.le_of_ble_eq_true rfl) rfl (e_Will_hasRoomForHeir N (by omega) hSh hx0 g1) ?_
  show RN xs L al (Ev xs L al d) 32 4 [(0, .ref x0), (1, .long x1), (3, .int x3)] [.int r1] (m, S) none (mf, S)
  by_cases c2 : r1 = 0
  · rw [if_pos c2] at h
    refine rjt (a := (46, [(0, .ref x0), (1, .long x1), (3, .int x3)], [])) (b := (7, [(0, .ref x0), (1, .long x1), (3, .int x3)], [])) rfl rfl c2 ?_
    have h := Option.some.inj h
    subst h
    exact rret rfl ⟨rfl, rfl, rfl, rfl, rfl⟩
  · rw [if_neg c2] at h
    refine rjf (a := (46, [(0, .ref x0), (1, .long x1), (3, .int x3)], [])) (b := (7, [(0, .ref x0), (1, .long x1), (3, .int x3)], [])) rfl rfl c2 ?_
    refine rsn 1 (t := (8, [(0, .ref x0), (1, .long x1), (3, .int x3)], [.ref x0])) rfl ?_
    refine rgR rfl rfl rfl (hSh.kW hx0 _) (hSh.rWa1 hx0 _) ?_
    refine rsn 1 (t := (12, [(0, .ref x0), (1, .long x1), (3, .int x3)], [.ref x0, .ref ((x0 + 1))])) rfl ?_
    refine pgI rfl rfl rfl (hSh.kW hx0 _) ?_
    show RN xs L al (Ev xs L al d) 32 15 [(0, .ref x0), (1, .long x1), (3, .int x3)] [.int ((mI m x0 0)), .ref ((x0 + 1))] (m, S) none (mf, S)
    refine rsn 1 (t := (16, [(0, .ref x0), (1, .long x1), (3, .int x3)], [.long x1, .int ((mI m x0 0)), .ref ((x0 + 1))])) rfl ?_
    obtain ⟨c3, h⟩ := ck_some h
    refine psJ rfl (hSh.kWa1 hx0 _) (hSh.lWa1 hx0 _) c3 ?_
    refine rsn 1 (t := (18, [(0, .ref x0), (1, .long x1), (3, .int x3)], [.int x3])) rfl ?_
    by_cases c4 : x3 = 0
    · rw [if_pos c4] at h
      refine rjt (a := (36, [(0, .ref x0), (1, .long x1), (3, .int x3)], [])) (b := (21, [(0, .ref x0), (1, .long x1), (3, .int x3)], [])) rfl rfl c4 ?_
      refine rsn 2 (t := (38, [(0, .ref x0), (1, .long x1), (3, .int x3)], [.ref x0, .ref x0])) rfl ?_
      refine pgI rfl rfl rfl (hSh.kW hx0 _) ?_
      show RN xs L al (Ev xs L al d) 32 41 [(0, .ref x0), (1, .long x1), (3, .int x3)] [.int ((mI m x0 0)), .ref x0] ((vY m ((x0 + 1)) (((mI m x0 0)).toNatClampNeg) x1), S) none (mf, S)
      refine rsn 2 (t := (43, [(0, .ref x0), (1, .long x1), (3, .int x3)], [.int ((((mI m x0 0)) + 1)), .ref x0])) rfl ?_
      refine ppI rfl rfl rfl rfl (hSh.kW hx0 _) ?_
      have h := Option.some.inj h
      subst h
      exact rret rfl ⟨rfl, rfl, rfl, rfl, rfl⟩
    · rw [if_neg c4] at h
      refine rjf (a := (36, [(0, .ref x0), (1, .long x1), (3, .int x3)], [])) (b := (21, [(0, .ref x0), (1, .long x1), (3, .int x3)], [])) rfl rfl c4 ?_
      refine rsn 2 (t := (23, [(0, .ref x0), (1, .long x1), (3, .int x3)], [.ref x0, .ref x0])) rfl ?_
      refine pgI rfl rfl rfl (hSh.kW hx0 _) ?_
      show RN xs L al (Ev xs L al d) 32 26 [(0, .ref x0), (1, .long x1), (3, .int x3)] [.int ((mI m x0 6)), .ref x0] ((vY m ((x0 + 1)) (((mI m x0 0)).toNatClampNeg) x1), S) none (mf, S)
      refine rsn 2 (t := (28, [(0, .ref x0), (1, .long x1), (3, .int x3)], [.ref x0, .int 1, .int ((mI m x0 6)), .ref x0])) rfl ?_
      refine pgI rfl rfl rfl (hSh.kW hx0 _) ?_
      show RN xs L al (Ev xs L al d) 32 31 [(0, .ref x0), (1, .long x1), (3, .int x3)] [.int ((mI m x0 0)), .int 1, .int ((mI m x0 6)), .ref x0] ((vY m ((x0 + 1)) (((mI m x0 0)).toNatClampNeg) x1), S) none (mf, S)
      refine rsn 2 (t := (33, [(0, .ref x0), (1, .long x1), (3, .int x3)], [.int ((((mI m x0 6)) ||| ((isl 1 ((mI m x0 0)))))), .ref x0])) rfl ?_
      refine ppI rfl rfl rfl rfl (hSh.kW hx0 _) ?_
      refine rsn 2 (t := (38, [(0, .ref x0), (1, .long x1), (3, .int x3)], [.ref x0, .ref x0])) rfl ?_
      refine pgI rfl rfl rfl (hSh.kW hx0 _) ?_
      show RN xs L al (Ev xs L al d) 32 41 [(0, .ref x0), (1, .long x1), (3, .int x3)] [.int ((mI (vI (vY m ((x0 + 1)) (((mI m x0 0)).toNatClampNeg) x1) x0 6 ((((mI m x0 6)) ||| ((isl 1 ((mI m x0 0))))))) x0 0)), .ref x0] ((vI (vY m ((x0 + 1)) (((mI m x0 0)).toNatClampNeg) x1) x0 6 ((((mI m x0 6)) ||| ((isl 1 ((mI m x0 0))))))), S) none (mf, S)
      refine rsn 2 (t := (43, [(0, .ref x0), (1, .long x1), (3, .int x3)], [.int ((((mI (vI (vY m ((x0 + 1)) (((mI m x0 0)).toNatClampNeg) x1) x0 6 ((((mI m x0 6)) ||| ((isl 1 ((mI m x0 0))))))) x0 0)) + 1)), .ref x0])) rfl ?_
      refine ppI rfl rfl rfl rfl (hSh.kW hx0 _) ?_
      have h := Option.some.inj h
      subst h
      exact rret rfl ⟨rfl, rfl, rfl, rfl, rfl⟩
def f_Reader_readHeir_L46 (N : Nat) (S : St) (x1 : Nat) (x2 : Int32) (x3 : Int64) (k46 : Int32 → Mm → Option (Int32 × Mm)) : Nat → Int32 → Mm → Option (Int32 × Mm)
  | 0, _, _ => none
  | n46 + 1, x5, m => (if 3 ≤ x5 then k46 x5 m else b1 (f_Reader_isNumber N S 0 20 m) fun r10 => (if r10 = 0 then some (0, m) else b3 (f_Will_putWorth N S x1 x5 ((mI m 2 5)) m) fun m12 => b3 (f_Reader_step N S m12) fun m13 => f_Reader_readHeir_L46 N S x1 x2 x3 k46 n46 ((x5 + 1)) m13))
def f_Reader_readHeir (N : Nat) (S : St) (x1 : Nat) (x2 : Int32) (m : Mm) : Option (Int32 × Mm) := b1 (f_Will_hasRoomForHeir N S x1 m) fun r1 => (if r1 = 0 then some (0, m) else b3 (f_Reader_step N S m) fun m3 => b1 (f_Reader_isName N S m3) fun r4 => (if r4 = 0 then some (0, m3) else b1 (f_Will_heirNamed N S x1 ((mJ m3 2 6)) m3) fun r6 => (if r6 = ((-1)) then b3 (f_Reader_step N S m3) fun m8 => f_Reader_readHeir_L46 N S x1 x2 ((mJ m3 2 6)) (fun (z14_5 : Int32) (m14 : Mm) => (if ((mI m14 2 3)) = 4 then b3 (f_Will_addHeir N S x1 ((mJ m3 2 6)) x2 m14) fun m16 => b3 (f_Reader_step N S m16) fun m17 => some (1, m17) else some (0, m14))) N 0 m8 else some (0, m3))))
set_option maxRecDepth 20000 in
set_option maxHeartbeats 4000000 in
theorem e_Reader_readHeir {xs : Nat → Int32} {L : Nat} {al : Bool} (N : Nat) {d : Nat} (hd : 4 ≤ d) {S : St} (hSh : ShC S) {x1 : Nat} {x2 : Int32} (hx1 : x1 ∈ wKl) {m : Mm} {r0 : Int32} {mf : Mm} (h : f_Reader_readHeir N S x1 x2 m = some (r0, mf)) : Ev xs L al d 26 [.ref 2, .ref x1, .int x2] (m, S) (some (.int r0)) (mf, S) := by
  obtain ⟨d, rfl⟩ : ∃ e, d = e + 1 := ⟨d - 1, by omega⟩
  refine ev_of (by decide) (Nat.le_of_ble_eq_true rfl) ?_
  rw [f_Reader_readHeir] at h
  show RN xs L al (Ev xs L al d) 26 0 [(0, .ref 2), (1, .ref x1), (2, .int x2)] [] (m, S) (some (.int r0)) (mf, S)
  refine rsn 1 (t := (1, [(0, .ref 2), (1, .ref x1), (2, .int x2)], [.ref x1])) rfl ?_
  obtain ⟨r1, g1, h⟩ := b1_some h
  refine rcV 27 x1 [] rfl rfl rfl (hSh.kW hx1 _) (Nat.le_of_ble_eq_true rfl) rfl (e_Will_hasRoomForHeir N (by omega) hSh hx1 g1) ?_
  show RN xs L al (Ev xs L al d) 26 4 [(0, .ref 2), (1, .ref x1), (2, .int x2)] [.int r1] (m, S) (some (.int r0)) (mf, S)
  by_cases c2 : r1 = 0
  · rw [if_pos c2] at h
    refine rjf (a := (9, [(0, .ref 2), (1, .ref x1), (2, .int x2)], [])) (b := (7, [(0, .ref 2), (1, .ref x1), (2, .int x2)], [])) rfl rfl (fun q => q c2) ?_
    refine rsn 1 (t := (8, [(0, .ref 2), (1, .ref x1), (2, .int x2)], [.int 0])) rfl ?_
    obtain ⟨h, h2⟩ := Prod.mk.inj (Option.some.inj h)
    subst h
    subst h2
    exact rret rfl ⟨rfl, rfl, _, _, rfl, rfl, rfl, rfl⟩
  · rw [if_neg c2] at h
    refine rjt (a := (9, [(0, .ref 2), (1, .ref x1), (2, .int x2)], [])) (b := (7, [(0, .ref 2), (1, .ref x1), (2, .int x2)], [])) rfl rfl c2 ?_
    refine rsn 1 (t := (10, [(0, .ref 2), (1, .ref x1), (2, .int x2)], [.ref 2])) rfl ?_
    obtain ⟨m3, g3, h⟩ := b3_some h
    refine rcV 19 2 [] rfl rfl rfl (hSh.1.k 2 rfl _) (Nat.le_of_ble_eq_true rfl) rfl (e_Reader_step N (by omega) hSh g3) ?_
    show RN xs L al (Ev xs L al d) 26 13 [(0, .ref 2), (1, .ref x1), (2, .int x2)] [] (m3, S) (some (.int r0)) (mf, S)
    refine rsn 1 (t := (14, [(0, .ref 2), (1, .ref x1), (2, .int x2)], [.ref 2])) rfl ?_
    obtain ⟨r4, g4, h⟩ := b1_some h
    refine rcV 28 2 [] rfl rfl rfl (hSh.1.k 2 rfl _) (Nat.le_of_ble_eq_true rfl) rfl (e_Reader_isName N (by omega) hSh g4) ?_
    show RN xs L al (Ev xs L al d) 26 17 [(0, .ref 2), (1, .ref x1), (2, .int x2)] [.int r4] (m3, S) (some (.int r0)) (mf, S)
    by_cases c5 : r4 = 0
    · rw [if_pos c5] at h
      refine rjt (a := (32, [(0, .ref 2), (1, .ref x1), (2, .int x2)], [])) (b := (20, [(0, .ref 2), (1, .ref x1), (2, .int x2)], [])) rfl rfl c5 ?_
      refine rsn 1 (t := (33, [(0, .ref 2), (1, .ref x1), (2, .int x2)], [.int 0])) rfl ?_
      obtain ⟨h, h2⟩ := Prod.mk.inj (Option.some.inj h)
      subst h
      subst h2
      exact rret rfl ⟨rfl, rfl, _, _, rfl, rfl, rfl, rfl⟩
    · rw [if_neg c5] at h
      refine rjf (a := (32, [(0, .ref 2), (1, .ref x1), (2, .int x2)], [])) (b := (20, [(0, .ref 2), (1, .ref x1), (2, .int x2)], [])) rfl rfl c5 ?_
      refine rsn 2 (t := (22, [(0, .ref 2), (1, .ref x1), (2, .int x2)], [.ref 2, .ref x1])) rfl ?_
      refine pgJ rfl rfl rfl (hSh.1.k 2 rfl _) ?_
      show RN xs L al (Ev xs L al d) 26 25 [(0, .ref 2), (1, .ref x1), (2, .int x2)] [.long ((mJ m3 2 6)), .ref x1] (m3, S) (some (.int r0)) (mf, S)
      obtain ⟨r6, g6, h⟩ := b1_some h
      refine rcV 29 x1 [.long ((mJ m3 2 6))] rfl rfl rfl (hSh.kW hx1 _) (Nat.le_of_ble_eq_true rfl) rfl (e_Will_heirNamed N (by omega) hSh hx1 g6) ?_
      show RN xs L al (Ev xs L al d) 26 28 [(0, .ref 2), (1, .ref x1), (2, .int x2)] [.int r6] (m3, S) (some (.int r0)) (mf, S)
      refine rsn 1 (t := (29, [(0, .ref 2), (1, .ref x1), (2, .int x2)], [.int ((-1)), .int r6])) rfl ?_
      by_cases c7 : r6 = ((-1))
      · rw [if_pos c7] at h
        refine rjt (a := (34, [(0, .ref 2), (1, .ref x1), (2, .int x2)], [])) (b := (32, [(0, .ref 2), (1, .ref x1), (2, .int x2)], [])) rfl rfl c7 ?_
        refine rsn 1 (t := (35, [(0, .ref 2), (1, .ref x1), (2, .int x2)], [.ref 2])) rfl ?_
        refine pgJ rfl rfl rfl (hSh.1.k 2 rfl _) ?_
        show RN xs L al (Ev xs L al d) 26 38 [(0, .ref 2), (1, .ref x1), (2, .int x2)] [.long ((mJ m3 2 6))] (m3, S) (some (.int r0)) (mf, S)
        refine rsn 2 (t := (40, [(3, .long ((mJ m3 2 6))), (0, .ref 2), (1, .ref x1), (2, .int x2)], [.ref 2])) rfl ?_
        obtain ⟨m8, g8, h⟩ := b3_some h
        refine rcV 19 2 [] rfl rfl rfl (hSh.1.k 2 rfl _) (Nat.le_of_ble_eq_true rfl) rfl (e_Reader_step N (by omega) hSh g8) ?_
        show RN xs L al (Ev xs L al d) 26 43 [(3, .long ((mJ m3 2 6))), (0, .ref 2), (1, .ref x1), (2, .int x2)] [] (m8, S) (some (.int r0)) (mf, S)
        refine rsn 2 (t := (46, [(5, .int 0), (3, .long ((mJ m3 2 6))), (0, .ref 2), (1, .ref x1), (2, .int x2)], [])) rfl ?_
        have ex46 : ∀ (z14_5 : Int32) (m14 : Mm), ((if ((mI m14 2 3)) = 4 then b3 (f_Will_addHeir N S x1 ((mJ m3 2 6)) x2 m14) fun m16 => b3 (f_Reader_step N S m16) fun m17 => some (1, m17) else some (0, m14))) = some (r0, mf) → RN xs L al (Ev xs L al d) 26 84 [(0, .ref 2), (1, .ref x1), (2, .int x2), (3, .long ((mJ m3 2 6)))] [] (m14, S) (some (.int r0)) (mf, S) := by
          intro z14_5 m14 h
          try dsimp only at h
          refine rsn 1 (t := (85, [(0, .ref 2), (1, .ref x1), (2, .int x2), (3, .long ((mJ m3 2 6)))], [.ref 2])) rfl ?_
          refine pgI rfl rfl rfl (hSh.1.k 2 rfl _) ?_
          show RN xs L al (Ev xs L al d) 26 88 [(0, .ref 2), (1, .ref x1), (2, .int x2), (3, .long ((mJ m3 2 6)))] [.int ((mI m14 2 3))] (m14, S) (some (.int r0)) (mf, S)
          refine rsn 1 (t := (89, [(0, .ref 2), (1, .ref x1), (2, .int x2), (3, .long ((mJ m3 2 6)))], [.int 4, .int ((mI m14 2 3))])) rfl ?_
          by_cases c15 : ((mI m14 2 3)) = 4
          · rw [if_pos c15] at h
            refine rjt (a := (94, [(0, .ref 2), (1, .ref x1), (2, .int x2), (3, .long ((mJ m3 2 6)))], [])) (b := (92, [(0, .ref 2), (1, .ref x1), (2, .int x2), (3, .long ((mJ m3 2 6)))], [])) rfl rfl c15 ?_
            refine rsn 3 (t := (97, [(0, .ref 2), (1, .ref x1), (2, .int x2), (3, .long ((mJ m3 2 6)))], [.int x2, .long ((mJ m3 2 6)), .ref x1])) rfl ?_
            obtain ⟨m16, g16, h⟩ := b3_some h
            refine rcV 32 x1 [.long ((mJ m3 2 6)), .int x2] rfl rfl rfl (hSh.kW hx1 _) (Nat.le_of_ble_eq_true rfl) rfl (e_Will_addHeir N (by omega) hSh hx1 g16) ?_
            show RN xs L al (Ev xs L al d) 26 100 [(0, .ref 2), (1, .ref x1), (2, .int x2), (3, .long ((mJ m3 2 6)))] [] (m16, S) (some (.int r0)) (mf, S)
            refine rsn 1 (t := (101, [(0, .ref 2), (1, .ref x1), (2, .int x2), (3, .long ((mJ m3 2 6)))], [.ref 2])) rfl ?_
            obtain ⟨m17, g17, h⟩ := b3_some h
            refine rcV 19 2 [] rfl rfl rfl (hSh.1.k 2 rfl _) (Nat.le_of_ble_eq_true rfl) rfl (e_Reader_step N (by omega) hSh g17) ?_
            show RN xs L al (Ev xs L al d) 26 104 [(0, .ref 2), (1, .ref x1), (2, .int x2), (3, .long ((mJ m3 2 6)))] [] (m17, S) (some (.int r0)) (mf, S)
            refine rsn 1 (t := (105, [(0, .ref 2), (1, .ref x1), (2, .int x2), (3, .long ((mJ m3 2 6)))], [.int 1])) rfl ?_
            obtain ⟨h, h2⟩ := Prod.mk.inj (Option.some.inj h)
            subst h
            subst h2
            exact rret rfl ⟨rfl, rfl, _, _, rfl, rfl, rfl, rfl⟩
          · rw [if_neg c15] at h
            refine rjf (a := (94, [(0, .ref 2), (1, .ref x1), (2, .int x2), (3, .long ((mJ m3 2 6)))], [])) (b := (92, [(0, .ref 2), (1, .ref x1), (2, .int x2), (3, .long ((mJ m3 2 6)))], [])) rfl rfl c15 ?_
            refine rsn 1 (t := (93, [(0, .ref 2), (1, .ref x1), (2, .int x2), (3, .long ((mJ m3 2 6)))], [.int 0])) rfl ?_
            obtain ⟨h, h2⟩ := Prod.mk.inj (Option.some.inj h)
            subst h
            subst h2
            exact rret rfl ⟨rfl, rfl, _, _, rfl, rfl, rfl, rfl⟩
        have lp46 : ∀ (n : Nat) (y18_5 : Int32) (m18 : Mm), (f_Reader_readHeir_L46 N S x1 x2 ((mJ m3 2 6)) (fun (z14_5 : Int32) (m14 : Mm) => (if ((mI m14 2 3)) = 4 then b3 (f_Will_addHeir N S x1 ((mJ m3 2 6)) x2 m14) fun m16 => b3 (f_Reader_step N S m16) fun m17 => some (1, m17) else some (0, m14))) n y18_5 m18) = some (r0, mf) → RN xs L al (Ev xs L al d) 26 46 [(0, .ref 2), (1, .ref x1), (2, .int x2), (3, .long ((mJ m3 2 6))), (5, .int y18_5)] [] (m18, S) (some (.int r0)) (mf, S) := by
          intro n
          induction n with
          | zero => intro y18_5 m18 h; exact absurd h (by simp [f_Reader_readHeir_L46])
          | succ n46 ih46 =>
            intro y18_5 m18 h
            try dsimp only at h
            rw [f_Reader_readHeir_L46] at h
            try dsimp only at h
            refine rsn 2 (t := (49, [(0, .ref 2), (1, .ref x1), (2, .int x2), (3, .long ((mJ m3 2 6))), (5, .int y18_5)], [.int 3, .int y18_5])) rfl ?_
            by_cases c19 : 3 ≤ y18_5
            · rw [if_pos c19] at h
              refine rjt (a := (84, [(0, .ref 2), (1, .ref x1), (2, .int x2), (3, .long ((mJ m3 2 6))), (5, .int y18_5)], [])) (b := (52, [(0, .ref 2), (1, .ref x1), (2, .int x2), (3, .long ((mJ m3 2 6))), (5, .int y18_5)], [])) rfl rfl c19 ?_
              exact rsub [(0, .ref 2), (1, .ref x1), (2, .int x2), (3, .long ((mJ m3 2 6)))] ⟨rfl, ⟨rfl, ⟨rfl, ⟨rfl, trivial⟩⟩⟩⟩ ⟨rfl, ⟨rfl, ⟨rfl, ⟨rfl, trivial⟩⟩⟩⟩ (ex46 y18_5 m18 h)
            · rw [if_neg c19] at h
              refine rjf (a := (84, [(0, .ref 2), (1, .ref x1), (2, .int x2), (3, .long ((mJ m3 2 6))), (5, .int y18_5)], [])) (b := (52, [(0, .ref 2), (1, .ref x1), (2, .int x2), (3, .long ((mJ m3 2 6))), (5, .int y18_5)], [])) rfl rfl c19 ?_
              refine rsn 3 (t := (56, [(0, .ref 2), (1, .ref x1), (2, .int x2), (3, .long ((mJ m3 2 6))), (5, .int y18_5)], [.int 20, .int 0, .ref 2])) rfl ?_
              obtain ⟨r20, g20, h⟩ := b1_some h
              refine rcV 30 2 [.int 0, .int 20] rfl rfl rfl (hSh.1.k 2 rfl _) (Nat.le_of_ble_eq_true rfl) rfl (e_Reader_isNumber N (by omega) hSh g20) ?_
              show RN xs L al (Ev xs L al d) 26 59 [(0, .ref 2), (1, .ref x1), (2, .int x2), (3, .long ((mJ m3 2 6))), (5, .int y18_5)] [.int r20] (m18, S) (some (.int r0)) (mf, S)
              by_cases c21 : r20 = 0
              · rw [if_pos c21] at h
                refine rjf (a := (64, [(0, .ref 2), (1, .ref x1), (2, .int x2), (3, .long ((mJ m3 2 6))), (5, .int y18_5)], [])) (b := (62, [(0, .ref 2), (1, .ref x1), (2, .int x2), (3, .long ((mJ m3 2 6))), (5, .int y18_5)], [])) rfl rfl (fun q => q c21) ?_
                refine rsn 1 (t := (63, [(0, .ref 2), (1, .ref x1), (2, .int x2), (3, .long ((mJ m3 2 6))), (5, .int y18_5)], [.int 0])) rfl ?_
                obtain ⟨h, h2⟩ := Prod.mk.inj (Option.some.inj h)
                subst h
                subst h2
                exact rret rfl ⟨rfl, rfl, _, _, rfl, rfl, rfl, rfl⟩
              · rw [if_neg c21] at h
                refine rjt (a := (64, [(0, .ref 2), (1, .ref x1), (2, .int x2), (3, .long ((mJ m3 2 6))), (5, .int y18_5)], [])) (b := (62, [(0, .ref 2), (1, .ref x1), (2, .int x2), (3, .long ((mJ m3 2 6))), (5, .int y18_5)], [])) rfl rfl c21 ?_
                refine rsn 3 (t := (68, [(0, .ref 2), (1, .ref x1), (2, .int x2), (3, .long ((mJ m3 2 6))), (5, .int y18_5)], [.ref 2, .int y18_5, .ref x1])) rfl ?_
                refine pgI rfl rfl rfl (hSh.1.k 2 rfl _) ?_
                show RN xs L al (Ev xs L al d) 26 71 [(0, .ref 2), (1, .ref x1), (2, .int x2), (3, .long ((mJ m3 2 6))), (5, .int y18_5)] [.int ((mI m18 2 5)), .int y18_5, .ref x1] (m18, S) (some (.int r0)) (mf, S)
                obtain ⟨m22, g22, h⟩ := b3_some h
                refine rcV 31 x1 [.int y18_5, .int ((mI m18 2 5))] rfl rfl rfl (hSh.kW hx1 _) (Nat.le_of_ble_eq_true rfl) rfl (e_Will_putWorth N (by omega) hSh hx1 g22) ?_
                show RN xs L al (Ev xs L al d) 26 74 [(0, .ref 2), (1, .ref x1), (2, .int x2), (3, .long ((mJ m3 2 6))), (5, .int y18_5)] [] (m22, S) (some (.int r0)) (mf, S)
                refine rsn 1 (t := (75, [(0, .ref 2), (1, .ref x1), (2, .int x2), (3, .long ((mJ m3 2 6))), (5, .int y18_5)], [.ref 2])) rfl ?_
                obtain ⟨m23, g23, h⟩ := b3_some h
                refine rcV 19 2 [] rfl rfl rfl (hSh.1.k 2 rfl _) (Nat.le_of_ble_eq_true rfl) rfl (e_Reader_step N (by omega) hSh g23) ?_
                show RN xs L al (Ev xs L al d) 26 78 [(0, .ref 2), (1, .ref x1), (2, .int x2), (3, .long ((mJ m3 2 6))), (5, .int y18_5)] [] (m23, S) (some (.int r0)) (mf, S)
                refine rsn 2 (t := (46, [(5, .int ((y18_5 + 1))), (0, .ref 2), (1, .ref x1), (2, .int x2), (3, .long ((mJ m3 2 6)))], [])) rfl ?_
                exact rsub [(0, .ref 2), (1, .ref x1), (2, .int x2), (3, .long ((mJ m3 2 6))), (5, .int ((y18_5 + 1)))] ⟨rfl, ⟨rfl, ⟨rfl, ⟨rfl, ⟨rfl, trivial⟩⟩⟩⟩⟩ ⟨rfl, ⟨rfl, ⟨rfl, ⟨rfl, ⟨rfl, trivial⟩⟩⟩⟩⟩ (ih46 ((y18_5 + 1)) m23 h)
        exact rsub [(0, .ref 2), (1, .ref x1), (2, .int x2), (3, .long ((mJ m3 2 6))), (5, .int 0)] ⟨rfl, ⟨rfl, ⟨rfl, ⟨rfl, ⟨rfl, trivial⟩⟩⟩⟩⟩ ⟨rfl, ⟨rfl, ⟨rfl, ⟨rfl, ⟨rfl, trivial⟩⟩⟩⟩⟩ (lp46 N 0 m8 h)
      · rw [if_neg c7] at h
        refine rjf (a := (34, [(0, .ref 2), (1, .ref x1), (2, .int x2)], [])) (b := (32, [(0, .ref 2), (1, .ref x1), (2, .int x2)], [])) rfl rfl c7 ?_
        refine rsn 1 (t := (33, [(0, .ref 2), (1, .ref x1), (2, .int x2)], [.int 0])) rfl ?_
        obtain ⟨h, h2⟩ := Prod.mk.inj (Option.some.inj h)
        subst h
        subst h2
        exact rret rfl ⟨rfl, rfl, _, _, rfl, rfl, rfl, rfl⟩
def f_Will_hasRoomForDay (N : Nat) (S : St) (x0 : Nat) (m : Mm) : Option (Int32) := (if 6 ≤ ((mI m x0 1)) then some 0 else some 1)
set_option maxRecDepth 20000 in
set_option maxHeartbeats 4000000 in
theorem e_Will_hasRoomForDay {xs : Nat → Int32} {L : Nat} {al : Bool} (N : Nat) {d : Nat} (hd : 1 ≤ d) {S : St} (hSh : ShC S) {x0 : Nat} (hx0 : x0 ∈ wKl) {m : Mm} {r0 : Int32} (h : f_Will_hasRoomForDay N S x0 m = some r0) : Ev xs L al d 34 [.ref x0] (m, S) (some (.int r0)) (m, S) := by
  obtain ⟨d, rfl⟩ : ∃ e, d = e + 1 := ⟨d - 1, by omega⟩
  refine ev_of (by decide) (Nat.le_of_ble_eq_true rfl) ?_
  rw [f_Will_hasRoomForDay] at h
  show RN xs L al (Ev xs L al d) 34 0 [(0, .ref x0)] [] (m, S) (some (.int r0)) (m, S)
  refine rsn 1 (t := (1, [(0, .ref x0)], [.ref x0])) rfl ?_
  refine pgI rfl rfl rfl (hSh.kW hx0 _) ?_
  show RN xs L al (Ev xs L al d) 34 4 [(0, .ref x0)] [.int ((mI m x0 1))] (m, S) (some (.int r0)) (m, S)
  refine rsn 1 (t := (6, [(0, .ref x0)], [.int 6, .int ((mI m x0 1))])) rfl ?_
  by_cases c1 : 6 ≤ ((mI m x0 1))
  · rw [if_pos c1] at h
    refine rjt (a := (13, [(0, .ref x0)], [])) (b := (9, [(0, .ref x0)], [])) rfl rfl c1 ?_
    refine rsn 1 (t := (14, [(0, .ref x0)], [.int 0])) rfl ?_
    have h := Option.some.inj h
    subst h
    exact rret rfl ⟨rfl, rfl, _, _, rfl, rfl, rfl, rfl⟩
  · rw [if_neg c1] at h
    refine rjf (a := (13, [(0, .ref x0)], [])) (b := (9, [(0, .ref x0)], [])) rfl rfl c1 ?_
    refine rsn 2 (t := (14, [(0, .ref x0)], [.int 1])) rfl ?_
    have h := Option.some.inj h
    subst h
    exact rret rfl ⟨rfl, rfl, _, _, rfl, rfl, rfl, rfl⟩
def f_Will_isLate (N : Nat) (S : St) (x0 : Nat) (x1 : Int32) (m : Mm) : Option (Int32) := (if x1 < 0 then some 0 else (if ((mI m x0 0)) ≤ x1 then some 0 else (if ((((isr ((mI m x0 6)) x1)) &&& 1)) = 1 then some 1 else some 0)))
set_option maxRecDepth 20000 in
set_option maxHeartbeats 4000000 in
theorem e_Will_isLate {xs : Nat → Int32} {L : Nat} {al : Bool} (N : Nat) {d : Nat} (hd : 1 ≤ d) {S : St} (hSh : ShC S) {x0 : Nat} {x1 : Int32} (hx0 : x0 ∈ wKl) {m : Mm} {r0 : Int32} (h : f_Will_isLate N S x0 x1 m = some r0) : Ev xs L al d 36 [.ref x0, .int x1] (m, S) (some (.int r0)) (m, S) := by
  obtain ⟨d, rfl⟩ : ∃ e, d = e + 1 := ⟨d - 1, by omega⟩
  refine ev_of (by decide) (Nat.le_of_ble_eq_true rfl) ?_
  rw [f_Will_isLate] at h
  show RN xs L al (Ev xs L al d) 36 0 [(0, .ref x0), (1, .int x1)] [] (m, S) (some (.int r0)) (m, S)
  refine rsn 1 (t := (1, [(0, .ref x0), (1, .int x1)], [.int x1])) rfl ?_
  by_cases c1 : x1 < 0
  · rw [if_pos c1] at h
    refine rjt (a := (28, [(0, .ref x0), (1, .int x1)], [])) (b := (4, [(0, .ref x0), (1, .int x1)], [])) rfl rfl c1 ?_
    refine rsn 1 (t := (29, [(0, .ref x0), (1, .int x1)], [.int 0])) rfl ?_
    have h := Option.some.inj h
    subst h
    exact rret rfl ⟨rfl, rfl, _, _, rfl, rfl, rfl, rfl⟩
  · rw [if_neg c1] at h
    refine rjf (a := (28, [(0, .ref x0), (1, .int x1)], [])) (b := (4, [(0, .ref x0), (1, .int x1)], [])) rfl rfl c1 ?_
    refine rsn 2 (t := (6, [(0, .ref x0), (1, .int x1)], [.ref x0, .int x1])) rfl ?_
    refine pgI rfl rfl rfl (hSh.kW hx0 _) ?_
    show RN xs L al (Ev xs L al d) 36 9 [(0, .ref x0), (1, .int x1)] [.int ((mI m x0 0)), .int x1] (m, S) (some (.int r0)) (m, S)
    by_cases c2 : ((mI m x0 0)) ≤ x1
    · rw [if_pos c2] at h
      refine rjt (a := (28, [(0, .ref x0), (1, .int x1)], [])) (b := (12, [(0, .ref x0), (1, .int x1)], [])) rfl rfl c2 ?_
      refine rsn 1 (t := (29, [(0, .ref x0), (1, .int x1)], [.int 0])) rfl ?_
      have h := Option.some.inj h
      subst h
      exact rret rfl ⟨rfl, rfl, _, _, rfl, rfl, rfl, rfl⟩
    · rw [if_neg c2] at h
      refine rjf (a := (28, [(0, .ref x0), (1, .int x1)], [])) (b := (12, [(0, .ref x0), (1, .int x1)], [])) rfl rfl c2 ?_
      refine rsn 1 (t := (13, [(0, .ref x0), (1, .int x1)], [.ref x0])) rfl ?_
      refine pgI rfl rfl rfl (hSh.kW hx0 _) ?_
      show RN xs L al (Ev xs L al d) 36 16 [(0, .ref x0), (1, .int x1)] [.int ((mI m x0 6))] (m, S) (some (.int r0)) (m, S)
      refine rsn 5 (t := (21, [(0, .ref x0), (1, .int x1)], [.int 1, .int ((((isr ((mI m x0 6)) x1)) &&& 1))])) rfl ?_
      by_cases c3 : ((((isr ((mI m x0 6)) x1)) &&& 1)) = 1
      · rw [if_pos c3] at h
        refine rjf (a := (28, [(0, .ref x0), (1, .int x1)], [])) (b := (24, [(0, .ref x0), (1, .int x1)], [])) rfl rfl (fun q => q c3) ?_
        refine rsn 2 (t := (29, [(0, .ref x0), (1, .int x1)], [.int 1])) rfl ?_
        have h := Option.some.inj h
        subst h
        exact rret rfl ⟨rfl, rfl, _, _, rfl, rfl, rfl, rfl⟩
      · rw [if_neg c3] at h
        refine rjt (a := (28, [(0, .ref x0), (1, .int x1)], [])) (b := (24, [(0, .ref x0), (1, .int x1)], [])) rfl rfl c3 ?_
        refine rsn 1 (t := (29, [(0, .ref x0), (1, .int x1)], [.int 0])) rfl ?_
        have h := Option.some.inj h
        subst h
        exact rret rfl ⟨rfl, rfl, _, _, rfl, rfl, rfl, rfl⟩
def f_Will_putAlt (N : Nat) (S : St) (x0 : Nat) (x1 : Int32) (x2 : Int32) (x3 : Int32) (x4 : Int32) (m : Mm) : Option (Mm) := b1 (f_Will_hasRoomForDay N S x0 m) fun r1 => (if r1 = 0 then some m else (if x1 < 0 then some m else (if 3 ≤ x1 then some m else ck (ix ((((((mI m x0 1)) * 3)) + x1)) 18) (ck (ix ((((((mI m x0 1)) * 3)) + x1)) 18) (ck (ix ((((((mI m x0 1)) * 3)) + x1)) 18) (some (vX (vX (vX m ((x0 + 4)) (((((((mI m x0 1)) * 3)) + x1)).toNatClampNeg) x2) ((x0 + 5)) (((((((mI m x0 1)) * 3)) + x1)).toNatClampNeg) x3) ((x0 + 6)) (((((((mI m x0 1)) * 3)) + x1)).toNatClampNeg) x4)))))))
set_option maxRecDepth 20000 in
set_option maxHeartbeats 4000000 in
theorem e_Will_putAlt {xs : Nat → Int32} {L : Nat} {al : Bool} (N : Nat) {d : Nat} (hd : 2 ≤ d) {S : St} (hSh : ShC S) {x0 : Nat} {x1 : Int32} {x2 : Int32} {x3 : Int32} {x4 : Int32} (hx0 : x0 ∈ wKl) {m : Mm} {mf : Mm} (h : f_Will_putAlt N S x0 x1 x2 x3 x4 m = some mf) : Ev xs L al d 37 [.ref x0, .int x1, .int x2, .int x3, .int x4] (m, S) none (mf, S) := by
  obtain ⟨d, rfl⟩ : ∃ e, d = e + 1 := ⟨d - 1, by omega⟩
  refine ev_of (by decide) (Nat.le_of_ble_eq_true rfl) ?_
  rw [f_Will_putAlt] at h
  show RN xs L al (Ev xs L al d) 37 0 [(0, .ref x0), (1, .int x1), (2, .int x2), (3, .int x3), (4, .int x4)] [] (m, S) none (mf, S)
  refine rsn 1 (t := (1, [(0, .ref x0), (1, .int x1), (2, .int x2), (3, .int x3), (4, .int x4)], [.ref x0])) rfl ?_
  obtain ⟨r1, g1, h⟩ := b1_some h
  refine rcV 34 x0 [] rfl rfl rfl (hSh.kW hx0 _) (Nat.le_of_ble_eq_true rfl) rfl (e_Will_hasRoomForDay N (by omega) hSh hx0 g1) ?_
  show RN xs L al (Ev xs L al d) 37 4 [(0, .ref x0), (1, .int x1), (2, .int x2), (3, .int x3), (4, .int x4)] [.int r1] (m, S) none (mf, S)
  by_cases c2 : r1 = 0
  · rw [if_pos c2] at h
    refine rjt (a := (51, [(0, .ref x0), (1, .int x1), (2, .int x2), (3, .int x3), (4, .int x4)], [])) (b := (7, [(0, .ref x0), (1, .int x1), (2, .int x2), (3, .int x3), (4, .int x4)], [])) rfl rfl c2 ?_
    have h := Option.some.inj h
    subst h
    exact rret rfl ⟨rfl, rfl, rfl, rfl, rfl⟩
  · rw [if_neg c2] at h
    refine rjf (a := (51, [(0, .ref x0), (1, .int x1), (2, .int x2), (3, .int x3), (4, .int x4)], [])) (b := (7, [(0, .ref x0), (1, .int x1), (2, .int x2), (3, .int x3), (4, .int x4)], [])) rfl rfl c2 ?_
    refine rsn 1 (t := (8, [(0, .ref x0), (1, .int x1), (2, .int x2), (3, .int x3), (4, .int x4)], [.int x1])) rfl ?_
    by_cases c3 : x1 < 0
    · rw [if_pos c3] at h
      refine rjt (a := (51, [(0, .ref x0), (1, .int x1), (2, .int x2), (3, .int x3), (4, .int x4)], [])) (b := (11, [(0, .ref x0), (1, .int x1), (2, .int x2), (3, .int x3), (4, .int x4)], [])) rfl rfl c3 ?_
      have h := Option.some.inj h
      subst h
      exact rret rfl ⟨rfl, rfl, rfl, rfl, rfl⟩
    · rw [if_neg c3] at h
      refine rjf (a := (51, [(0, .ref x0), (1, .int x1), (2, .int x2), (3, .int x3), (4, .int x4)], [])) (b := (11, [(0, .ref x0), (1, .int x1), (2, .int x2), (3, .int x3), (4, .int x4)], [])) rfl rfl c3 ?_
      refine rsn 2 (t := (13, [(0, .ref x0), (1, .int x1), (2, .int x2), (3, .int x3), (4, .int x4)], [.int 3, .int x1])) rfl ?_
      by_cases c4 : 3 ≤ x1
      · rw [if_pos c4] at h
        refine rjt (a := (51, [(0, .ref x0), (1, .int x1), (2, .int x2), (3, .int x3), (4, .int x4)], [])) (b := (16, [(0, .ref x0), (1, .int x1), (2, .int x2), (3, .int x3), (4, .int x4)], [])) rfl rfl c4 ?_
        have h := Option.some.inj h
        subst h
        exact rret rfl ⟨rfl, rfl, rfl, rfl, rfl⟩
      · rw [if_neg c4] at h
        refine rjf (a := (51, [(0, .ref x0), (1, .int x1), (2, .int x2), (3, .int x3), (4, .int x4)], [])) (b := (16, [(0, .ref x0), (1, .int x1), (2, .int x2), (3, .int x3), (4, .int x4)], [])) rfl rfl c4 ?_
        refine rsn 1 (t := (17, [(0, .ref x0), (1, .int x1), (2, .int x2), (3, .int x3), (4, .int x4)], [.ref x0])) rfl ?_
        refine pgI rfl rfl rfl (hSh.kW hx0 _) ?_
        show RN xs L al (Ev xs L al d) 37 20 [(0, .ref x0), (1, .int x1), (2, .int x2), (3, .int x3), (4, .int x4)] [.int ((mI m x0 1))] (m, S) none (mf, S)
        refine rsn 6 (t := (27, [(5, .int ((((((mI m x0 1)) * 3)) + x1))), (0, .ref x0), (1, .int x1), (2, .int x2), (3, .int x3), (4, .int x4)], [.ref x0])) rfl ?_
        refine rgR rfl rfl rfl (hSh.kW hx0 _) (hSh.rWa4 hx0 _) ?_
        refine rsn 2 (t := (33, [(5, .int ((((((mI m x0 1)) * 3)) + x1))), (0, .ref x0), (1, .int x1), (2, .int x2), (3, .int x3), (4, .int x4)], [.int x2, .int ((((((mI m x0 1)) * 3)) + x1)), .ref ((x0 + 4))])) rfl ?_
        obtain ⟨c5, h⟩ := ck_some h
        refine psI rfl (hSh.kWa4 hx0 _) (hSh.lWa4 hx0 _) c5 ?_
        refine rsn 1 (t := (35, [(5, .int ((((((mI m x0 1)) * 3)) + x1))), (0, .ref x0), (1, .int x1), (2, .int x2), (3, .int x3), (4, .int x4)], [.ref x0])) rfl ?_
        refine rgR rfl rfl rfl (hSh.kW hx0 _) (hSh.rWa5 hx0 _) ?_
        refine rsn 2 (t := (41, [(5, .int ((((((mI m x0 1)) * 3)) + x1))), (0, .ref x0), (1, .int x1), (2, .int x2), (3, .int x3), (4, .int x4)], [.int x3, .int ((((((mI m x0 1)) * 3)) + x1)), .ref ((x0 + 5))])) rfl ?_
        obtain ⟨c6, h⟩ := ck_some h
        refine psI rfl (hSh.kWa5 hx0 _) (hSh.lWa5 hx0 _) c6 ?_
        refine rsn 1 (t := (43, [(5, .int ((((((mI m x0 1)) * 3)) + x1))), (0, .ref x0), (1, .int x1), (2, .int x2), (3, .int x3), (4, .int x4)], [.ref x0])) rfl ?_
        refine rgR rfl rfl rfl (hSh.kW hx0 _) (hSh.rWa6 hx0 _) ?_
        refine rsn 2 (t := (50, [(5, .int ((((((mI m x0 1)) * 3)) + x1))), (0, .ref x0), (1, .int x1), (2, .int x2), (3, .int x3), (4, .int x4)], [.int x4, .int ((((((mI m x0 1)) * 3)) + x1)), .ref ((x0 + 6))])) rfl ?_
        obtain ⟨c7, h⟩ := ck_some h
        refine psI rfl (hSh.kWa6 hx0 _) (hSh.lWa6 hx0 _) c7 ?_
        have h := Option.some.inj h
        subst h
        exact rret rfl ⟨rfl, rfl, rfl, rfl, rfl⟩
def f_Reader_readAlt (N : Nat) (S : St) (x1 : Nat) (x2 : Int32) (m : Mm) : Option (Int32 × Mm) := b1 (f_Reader_isNumber N S 1 ((12 - ((mI m 2 7)))) m) fun r1 => (if r1 = 0 then some (0, m) else b3 (f_Reader_step N S (vI m 2 7 ((((mI m 2 7)) + ((mI m 2 5)))))) fun m3 => (if ((mI m3 2 3)) = 1 then (jn (fun (y5 : Int32) (y6 : Int32) (m7 : Mm) => b3 (f_Will_putAlt N S x1 x2 ((mI m 2 5)) y6 y5 m7) fun m8 => b3 (f_Reader_step N S m8) fun m9 => some (1, m9)) (fun j153 => if ((mJ m3 2 6)) = 499967946343 then b3 (f_Reader_step N S m3) fun m20 => b1 (f_Reader_isNumber N S 0 2 m20) fun r21 => (if r21 = 0 then some (0, m20) else j153 ((mI m20 2 5)) 0 m20) else (if ((mJ m3 2 6)) = 427071202675 then b3 (f_Reader_step N S m3) fun m13 => b1 (f_Reader_isName N S m13) fun r14 => (jn (fun (s15 : Int32) => b1 (f_Will_isLate N S x1 s15 m13) fun r16 => (if r16 = 0 then some (0, m13) else j153 s15 1 m13)) (fun j127 => if r14 = 0 then j127 ((-1)) else b1 (f_Will_heirNamed N S x1 ((mJ m13 2 6)) m13) fun r19 => j127 r19)) else (if ((mJ m3 2 6)) = 1852796517 then j153 ((-1)) 2 m3 else some (0, m3))))) else some (0, m3)))
set_option maxRecDepth 20000 in
set_option maxHeartbeats 4000000 in
theorem e_Reader_readAlt {xs : Nat → Int32} {L : Nat} {al : Bool} (N : Nat) {d : Nat} (hd : 4 ≤ d) {S : St} (hSh : ShC S) {x1 : Nat} {x2 : Int32} (hx1 : x1 ∈ wKl) {m : Mm} {r0 : Int32} {mf : Mm} (h : f_Reader_readAlt N S x1 x2 m = some (r0, mf)) : Ev xs L al d 35 [.ref 2, .ref x1, .int x2] (m, S) (some (.int r0)) (mf, S) := by
  obtain ⟨d, rfl⟩ : ∃ e, d = e + 1 := ⟨d - 1, by omega⟩
  refine ev_of (by decide) (Nat.le_of_ble_eq_true rfl) ?_
  rw [f_Reader_readAlt] at h
  show RN xs L al (Ev xs L al d) 35 0 [(0, .ref 2), (1, .ref x1), (2, .int x2)] [] (m, S) (some (.int r0)) (mf, S)
  refine rsn 4 (t := (5, [(0, .ref 2), (1, .ref x1), (2, .int x2)], [.ref 2, .int 12, .int 1, .ref 2])) rfl ?_
  refine pgI rfl rfl rfl (hSh.1.k 2 rfl _) ?_
  show RN xs L al (Ev xs L al d) 35 8 [(0, .ref 2), (1, .ref x1), (2, .int x2)] [.int ((mI m 2 7)), .int 12, .int 1, .ref 2] (m, S) (some (.int r0)) (mf, S)
  refine rsn 1 (t := (9, [(0, .ref 2), (1, .ref x1), (2, .int x2)], [.int ((12 - ((mI m 2 7)))), .int 1, .ref 2])) rfl ?_
  obtain ⟨r1, g1, h⟩ := b1_some h
  refine rcV 30 2 [.int 1, .int ((12 - ((mI m 2 7))))] rfl rfl rfl (hSh.1.k 2 rfl _) (Nat.le_of_ble_eq_true rfl) rfl (e_Reader_isNumber N (by omega) hSh g1) ?_
  show RN xs L al (Ev xs L al d) 35 12 [(0, .ref 2), (1, .ref x1), (2, .int x2)] [.int r1] (m, S) (some (.int r0)) (mf, S)
  by_cases c2 : r1 = 0
  · rw [if_pos c2] at h
    refine rjf (a := (17, [(0, .ref 2), (1, .ref x1), (2, .int x2)], [])) (b := (15, [(0, .ref 2), (1, .ref x1), (2, .int x2)], [])) rfl rfl (fun q => q c2) ?_
    refine rsn 1 (t := (16, [(0, .ref 2), (1, .ref x1), (2, .int x2)], [.int 0])) rfl ?_
    obtain ⟨h, h2⟩ := Prod.mk.inj (Option.some.inj h)
    subst h
    subst h2
    exact rret rfl ⟨rfl, rfl, _, _, rfl, rfl, rfl, rfl⟩
  · rw [if_neg c2] at h
    refine rjt (a := (17, [(0, .ref 2), (1, .ref x1), (2, .int x2)], [])) (b := (15, [(0, .ref 2), (1, .ref x1), (2, .int x2)], [])) rfl rfl c2 ?_
    refine rsn 1 (t := (18, [(0, .ref 2), (1, .ref x1), (2, .int x2)], [.ref 2])) rfl ?_
    refine pgI rfl rfl rfl (hSh.1.k 2 rfl _) ?_
    show RN xs L al (Ev xs L al d) 35 21 [(0, .ref 2), (1, .ref x1), (2, .int x2)] [.int ((mI m 2 5))] (m, S) (some (.int r0)) (mf, S)
    refine rsn 3 (t := (24, [(3, .int ((mI m 2 5))), (0, .ref 2), (1, .ref x1), (2, .int x2)], [.ref 2, .ref 2])) rfl ?_
    refine pgI rfl rfl rfl (hSh.1.k 2 rfl _) ?_
    show RN xs L al (Ev xs L al d) 35 27 [(3, .int ((mI m 2 5))), (0, .ref 2), (1, .ref x1), (2, .int x2)] [.int ((mI m 2 7)), .ref 2] (m, S) (some (.int r0)) (mf, S)
    refine rsn 2 (t := (29, [(3, .int ((mI m 2 5))), (0, .ref 2), (1, .ref x1), (2, .int x2)], [.int ((((mI m 2 7)) + ((mI m 2 5)))), .ref 2])) rfl ?_
    refine ppI rfl rfl rfl rfl (hSh.1.k 2 rfl _) ?_
    refine rsn 1 (t := (33, [(3, .int ((mI m 2 5))), (0, .ref 2), (1, .ref x1), (2, .int x2)], [.ref 2])) rfl ?_
    obtain ⟨m3, g3, h⟩ := b3_some h
    refine rcV 19 2 [] rfl rfl rfl (hSh.1.k 2 rfl _) (Nat.le_of_ble_eq_true rfl) rfl (e_Reader_step N (by omega) hSh g3) ?_
    show RN xs L al (Ev xs L al d) 35 36 [(3, .int ((mI m 2 5))), (0, .ref 2), (1, .ref x1), (2, .int x2)] [] (m3, S) (some (.int r0)) (mf, S)
    refine rsn 1 (t := (37, [(3, .int ((mI m 2 5))), (0, .ref 2), (1, .ref x1), (2, .int x2)], [.ref 2])) rfl ?_
    refine pgI rfl rfl rfl (hSh.1.k 2 rfl _) ?_
    show RN xs L al (Ev xs L al d) 35 40 [(3, .int ((mI m 2 5))), (0, .ref 2), (1, .ref x1), (2, .int x2)] [.int ((mI m3 2 3))] (m3, S) (some (.int r0)) (mf, S)
    refine rsn 1 (t := (41, [(3, .int ((mI m 2 5))), (0, .ref 2), (1, .ref x1), (2, .int x2)], [.int 1, .int ((mI m3 2 3))])) rfl ?_
    by_cases c4 : ((mI m3 2 3)) = 1
    · rw [if_pos c4] at h
      refine rjt (a := (46, [(3, .int ((mI m 2 5))), (0, .ref 2), (1, .ref x1), (2, .int x2)], [])) (b := (44, [(3, .int ((mI m 2 5))), (0, .ref 2), (1, .ref x1), (2, .int x2)], [])) rfl rfl c4 ?_
      refine rsn 5 (t := (53, [(5, .int 2), (4, .int ((-1))), (3, .int ((mI m 2 5))), (0, .ref 2), (1, .ref x1), (2, .int x2)], [.ref 2])) rfl ?_
      refine pgJ rfl rfl rfl (hSh.1.k 2 rfl _) ?_
      show RN xs L al (Ev xs L al d) 35 56 [(5, .int 2), (4, .int ((-1))), (3, .int ((mI m 2 5))), (0, .ref 2), (1, .ref x1), (2, .int x2)] [.long ((mJ m3 2 6))] (m3, S) (some (.int r0)) (mf, S)
      refine rsn 2 (t := (60, [(5, .int 2), (4, .int ((-1))), (3, .int ((mI m 2 5))), (0, .ref 2), (1, .ref x1), (2, .int x2)], [.int ((lg_cmp ((mJ m3 2 6)) 499967946343))])) rfl ?_
      have jp153 : ∀ (y5 : Int32) (y6 : Int32) (m7 : Mm), (b3 (f_Will_putAlt N S x1 x2 ((mI m 2 5)) y6 y5 m7) fun m8 => b3 (f_Reader_step N S m8) fun m9 => some (1, m9)) = some (r0, mf) → RN xs L al (Ev xs L al d) 35 153 [(0, .ref 2), (1, .ref x1), (2, .int x2), (3, .int ((mI m 2 5))), (4, .int y5), (5, .int y6)] [] (m7, S) (some (.int r0)) (mf, S) := by
        intro y5 y6 m7 h
        try dsimp only at h
        refine rsn 5 (t := (160, [(0, .ref 2), (1, .ref x1), (2, .int x2), (3, .int ((mI m 2 5))), (4, .int y5), (5, .int y6)], [.int y5, .int y6, .int ((mI m 2 5)), .int x2, .ref x1])) rfl ?_
        obtain ⟨m8, g8, h⟩ := b3_some h
        refine rcV 37 x1 [.int x2, .int ((mI m 2 5)), .int y6, .int y5] rfl rfl rfl (hSh.kW hx1 _) (Nat.le_of_ble_eq_true rfl) rfl (e_Will_putAlt N (by omega) hSh hx1 g8) ?_
        show RN xs L al (Ev xs L al d) 35 163 [(0, .ref 2), (1, .ref x1), (2, .int x2), (3, .int ((mI m 2 5))), (4, .int y5), (5, .int y6)] [] (m8, S) (some (.int r0)) (mf, S)
        refine rsn 1 (t := (164, [(0, .ref 2), (1, .ref x1), (2, .int x2), (3, .int ((mI m 2 5))), (4, .int y5), (5, .int y6)], [.ref 2])) rfl ?_
        obtain ⟨m9, g9, h⟩ := b3_some h
        refine rcV 19 2 [] rfl rfl rfl (hSh.1.k 2 rfl _) (Nat.le_of_ble_eq_true rfl) rfl (e_Reader_step N (by omega) hSh g9) ?_
        show RN xs L al (Ev xs L al d) 35 167 [(0, .ref 2), (1, .ref x1), (2, .int x2), (3, .int ((mI m 2 5))), (4, .int y5), (5, .int y6)] [] (m9, S) (some (.int r0)) (mf, S)
        refine rsn 1 (t := (168, [(0, .ref 2), (1, .ref x1), (2, .int x2), (3, .int ((mI m 2 5))), (4, .int y5), (5, .int y6)], [.int 1])) rfl ?_
        obtain ⟨h, h2⟩ := Prod.mk.inj (Option.some.inj h)
        subst h
        subst h2
        exact rret rfl ⟨rfl, rfl, _, _, rfl, rfl, rfl, rfl⟩
      rw [jn] at h
      try dsimp only at h
      by_cases c10 : ((mJ m3 2 6)) = 499967946343
      · rw [if_pos c10] at h
        refine rjf (a := (90, [(5, .int 2), (4, .int ((-1))), (3, .int ((mI m 2 5))), (0, .ref 2), (1, .ref x1), (2, .int x2)], [])) (b := (63, [(5, .int 2), (4, .int ((-1))), (3, .int ((mI m 2 5))), (0, .ref 2), (1, .ref x1), (2, .int x2)], [])) rfl rfl (fun q => q (lgc_eq.mpr c10)) ?_
        refine rsn 3 (t := (67, [(5, .int 0), (4, .int ((-1))), (3, .int ((mI m 2 5))), (0, .ref 2), (1, .ref x1), (2, .int x2)], [.ref 2])) rfl ?_
        obtain ⟨m20, g20, h⟩ := b3_some h
        refine rcV 19 2 [] rfl rfl rfl (hSh.1.k 2 rfl _) (Nat.le_of_ble_eq_true rfl) rfl (e_Reader_step N (by omega) hSh g20) ?_
        show RN xs L al (Ev xs L al d) 35 70 [(5, .int 0), (4, .int ((-1))), (3, .int ((mI m 2 5))), (0, .ref 2), (1, .ref x1), (2, .int x2)] [] (m20, S) (some (.int r0)) (mf, S)
        refine rsn 3 (t := (73, [(5, .int 0), (4, .int ((-1))), (3, .int ((mI m 2 5))), (0, .ref 2), (1, .ref x1), (2, .int x2)], [.int 2, .int 0, .ref 2])) rfl ?_
        obtain ⟨r21, g21, h⟩ := b1_some h
        refine rcV 30 2 [.int 0, .int 2] rfl rfl rfl (hSh.1.k 2 rfl _) (Nat.le_of_ble_eq_true rfl) rfl (e_Reader_isNumber N (by omega) hSh g21) ?_
        show RN xs L al (Ev xs L al d) 35 76 [(5, .int 0), (4, .int ((-1))), (3, .int ((mI m 2 5))), (0, .ref 2), (1, .ref x1), (2, .int x2)] [.int r21] (m20, S) (some (.int r0)) (mf, S)
        by_cases c22 : r21 = 0
        · rw [if_pos c22] at h
          refine rjf (a := (81, [(5, .int 0), (4, .int ((-1))), (3, .int ((mI m 2 5))), (0, .ref 2), (1, .ref x1), (2, .int x2)], [])) (b := (79, [(5, .int 0), (4, .int ((-1))), (3, .int ((mI m 2 5))), (0, .ref 2), (1, .ref x1), (2, .int x2)], [])) rfl rfl (fun q => q c22) ?_
          refine rsn 1 (t := (80, [(5, .int 0), (4, .int ((-1))), (3, .int ((mI m 2 5))), (0, .ref 2), (1, .ref x1), (2, .int x2)], [.int 0])) rfl ?_
          obtain ⟨h, h2⟩ := Prod.mk.inj (Option.some.inj h)
          subst h
          subst h2
          exact rret rfl ⟨rfl, rfl, _, _, rfl, rfl, rfl, rfl⟩
        · rw [if_neg c22] at h
          refine rjt (a := (81, [(5, .int 0), (4, .int ((-1))), (3, .int ((mI m 2 5))), (0, .ref 2), (1, .ref x1), (2, .int x2)], [])) (b := (79, [(5, .int 0), (4, .int ((-1))), (3, .int ((mI m 2 5))), (0, .ref 2), (1, .ref x1), (2, .int x2)], [])) rfl rfl c22 ?_
          refine rsn 1 (t := (82, [(5, .int 0), (4, .int ((-1))), (3, .int ((mI m 2 5))), (0, .ref 2), (1, .ref x1), (2, .int x2)], [.ref 2])) rfl ?_
          refine pgI rfl rfl rfl (hSh.1.k 2 rfl _) ?_
          show RN xs L al (Ev xs L al d) 35 85 [(5, .int 0), (4, .int ((-1))), (3, .int ((mI m 2 5))), (0, .ref 2), (1, .ref x1), (2, .int x2)] [.int ((mI m20 2 5))] (m20, S) (some (.int r0)) (mf, S)
          refine rsn 2 (t := (153, [(4, .int ((mI m20 2 5))), (5, .int 0), (3, .int ((mI m 2 5))), (0, .ref 2), (1, .ref x1), (2, .int x2)], [])) rfl ?_
          exact rsub [(0, .ref 2), (1, .ref x1), (2, .int x2), (3, .int ((mI m 2 5))), (4, .int ((mI m20 2 5))), (5, .int 0)] ⟨rfl, ⟨rfl, ⟨rfl, ⟨rfl, ⟨rfl, ⟨rfl, trivial⟩⟩⟩⟩⟩⟩ ⟨rfl, ⟨rfl, ⟨rfl, ⟨rfl, ⟨rfl, ⟨rfl, trivial⟩⟩⟩⟩⟩⟩ (jp153 ((mI m20 2 5)) 0 m20 h)
      · rw [if_neg c10] at h
        refine rjt (a := (90, [(5, .int 2), (4, .int ((-1))), (3, .int ((mI m 2 5))), (0, .ref 2), (1, .ref x1), (2, .int x2)], [])) (b := (63, [(5, .int 2), (4, .int ((-1))), (3, .int ((mI m 2 5))), (0, .ref 2), (1, .ref x1), (2, .int x2)], [])) rfl rfl (fun q => c10 (lgc_eq.mp q)) ?_
        refine rsn 1 (t := (91, [(5, .int 2), (4, .int ((-1))), (3, .int ((mI m 2 5))), (0, .ref 2), (1, .ref x1), (2, .int x2)], [.ref 2])) rfl ?_
        refine pgJ rfl rfl rfl (hSh.1.k 2 rfl _) ?_
        show RN xs L al (Ev xs L al d) 35 94 [(5, .int 2), (4, .int ((-1))), (3, .int ((mI m 2 5))), (0, .ref 2), (1, .ref x1), (2, .int x2)] [.long ((mJ m3 2 6))] (m3, S) (some (.int r0)) (mf, S)
        refine rsn 2 (t := (98, [(5, .int 2), (4, .int ((-1))), (3, .int ((mI m 2 5))), (0, .ref 2), (1, .ref x1), (2, .int x2)], [.int ((lg_cmp ((mJ m3 2 6)) 427071202675))])) rfl ?_
        by_cases c11 : ((mJ m3 2 6)) = 427071202675
        · rw [if_pos c11] at h
          refine rjf (a := (140, [(5, .int 2), (4, .int ((-1))), (3, .int ((mI m 2 5))), (0, .ref 2), (1, .ref x1), (2, .int x2)], [])) (b := (101, [(5, .int 2), (4, .int ((-1))), (3, .int ((mI m 2 5))), (0, .ref 2), (1, .ref x1), (2, .int x2)], [])) rfl rfl (fun q => q (lgc_eq.mpr c11)) ?_
          refine rsn 3 (t := (105, [(5, .int 1), (4, .int ((-1))), (3, .int ((mI m 2 5))), (0, .ref 2), (1, .ref x1), (2, .int x2)], [.ref 2])) rfl ?_
          obtain ⟨m13, g13, h⟩ := b3_some h
          refine rcV 19 2 [] rfl rfl rfl (hSh.1.k 2 rfl _) (Nat.le_of_ble_eq_true rfl) rfl (e_Reader_step N (by omega) hSh g13) ?_
          show RN xs L al (Ev xs L al d) 35 108 [(5, .int 1), (4, .int ((-1))), (3, .int ((mI m 2 5))), (0, .ref 2), (1, .ref x1), (2, .int x2)] [] (m13, S) (some (.int r0)) (mf, S)
          refine rsn 1 (t := (109, [(5, .int 1), (4, .int ((-1))), (3, .int ((mI m 2 5))), (0, .ref 2), (1, .ref x1), (2, .int x2)], [.ref 2])) rfl ?_
          obtain ⟨r14, g14, h⟩ := b1_some h
          refine rcV 28 2 [] rfl rfl rfl (hSh.1.k 2 rfl _) (Nat.le_of_ble_eq_true rfl) rfl (e_Reader_isName N (by omega) hSh g14) ?_
          show RN xs L al (Ev xs L al d) 35 112 [(5, .int 1), (4, .int ((-1))), (3, .int ((mI m 2 5))), (0, .ref 2), (1, .ref x1), (2, .int x2)] [.int r14] (m13, S) (some (.int r0)) (mf, S)
          have jp127 : ∀ (s15 : Int32), (((fun j153 => b1 (f_Will_isLate N S x1 s15 m13) fun r16 => (if r16 = 0 then some (0, m13) else j153 s15 1 m13)) (fun (y5 : Int32) (y6 : Int32) (m7 : Mm) => b3 (f_Will_putAlt N S x1 x2 ((mI m 2 5)) y6 y5 m7) fun m8 => b3 (f_Reader_step N S m8) fun m9 => some (1, m9)))) = some (r0, mf) → RN xs L al (Ev xs L al d) 35 127 [(0, .ref 2), (1, .ref x1), (2, .int x2), (3, .int ((mI m 2 5))), (5, .int 1)] [.int s15] (m13, S) (some (.int r0)) (mf, S) := by
            intro s15 h
            try dsimp only at h
            refine rsn 3 (t := (132, [(4, .int s15), (0, .ref 2), (1, .ref x1), (2, .int x2), (3, .int ((mI m 2 5))), (5, .int 1)], [.int s15, .ref x1])) rfl ?_
            obtain ⟨r16, g16, h⟩ := b1_some h
            refine rcV 36 x1 [.int s15] rfl rfl rfl (hSh.kW hx1 _) (Nat.le_of_ble_eq_true rfl) rfl (e_Will_isLate N (by omega) hSh hx1 g16) ?_
            show RN xs L al (Ev xs L al d) 35 135 [(4, .int s15), (0, .ref 2), (1, .ref x1), (2, .int x2), (3, .int ((mI m 2 5))), (5, .int 1)] [.int r16] (m13, S) (some (.int r0)) (mf, S)
            by_cases c17 : r16 = 0
            · rw [if_pos c17] at h
              refine rjf (a := (153, [(4, .int s15), (0, .ref 2), (1, .ref x1), (2, .int x2), (3, .int ((mI m 2 5))), (5, .int 1)], [])) (b := (138, [(4, .int s15), (0, .ref 2), (1, .ref x1), (2, .int x2), (3, .int ((mI m 2 5))), (5, .int 1)], [])) rfl rfl (fun q => q c17) ?_
              refine rsn 1 (t := (139, [(4, .int s15), (0, .ref 2), (1, .ref x1), (2, .int x2), (3, .int ((mI m 2 5))), (5, .int 1)], [.int 0])) rfl ?_
              obtain ⟨h, h2⟩ := Prod.mk.inj (Option.some.inj h)
              subst h
              subst h2
              exact rret rfl ⟨rfl, rfl, _, _, rfl, rfl, rfl, rfl⟩
            · rw [if_neg c17] at h
              refine rjt (a := (153, [(4, .int s15), (0, .ref 2), (1, .ref x1), (2, .int x2), (3, .int ((mI m 2 5))), (5, .int 1)], [])) (b := (138, [(4, .int s15), (0, .ref 2), (1, .ref x1), (2, .int x2), (3, .int ((mI m 2 5))), (5, .int 1)], [])) rfl rfl c17 ?_
              exact rsub [(0, .ref 2), (1, .ref x1), (2, .int x2), (3, .int ((mI m 2 5))), (4, .int s15), (5, .int 1)] ⟨rfl, ⟨rfl, ⟨rfl, ⟨rfl, ⟨rfl, ⟨rfl, trivial⟩⟩⟩⟩⟩⟩ ⟨rfl, ⟨rfl, ⟨rfl, ⟨rfl, ⟨rfl, ⟨rfl, trivial⟩⟩⟩⟩⟩⟩ (jp153 s15 1 m13 h)
          rw [jn] at h
          try dsimp only at h
          by_cases c18 : r14 = 0
          · rw [if_pos c18] at h
            refine rjt (a := (126, [(5, .int 1), (4, .int ((-1))), (3, .int ((mI m 2 5))), (0, .ref 2), (1, .ref x1), (2, .int x2)], [])) (b := (115, [(5, .int 1), (4, .int ((-1))), (3, .int ((mI m 2 5))), (0, .ref 2), (1, .ref x1), (2, .int x2)], [])) rfl rfl c18 ?_
            refine rsn 1 (t := (127, [(5, .int 1), (4, .int ((-1))), (3, .int ((mI m 2 5))), (0, .ref 2), (1, .ref x1), (2, .int x2)], [.int ((-1))])) rfl ?_
            exact rsub [(0, .ref 2), (1, .ref x1), (2, .int x2), (3, .int ((mI m 2 5))), (5, .int 1)] ⟨rfl, ⟨rfl, ⟨rfl, ⟨rfl, ⟨rfl, trivial⟩⟩⟩⟩⟩ ⟨rfl, ⟨rfl, ⟨rfl, ⟨rfl, ⟨rfl, trivial⟩⟩⟩⟩⟩ (jp127 ((-1)) h)
          · rw [if_neg c18] at h
            refine rjf (a := (126, [(5, .int 1), (4, .int ((-1))), (3, .int ((mI m 2 5))), (0, .ref 2), (1, .ref x1), (2, .int x2)], [])) (b := (115, [(5, .int 1), (4, .int ((-1))), (3, .int ((mI m 2 5))), (0, .ref 2), (1, .ref x1), (2, .int x2)], [])) rfl rfl c18 ?_
            refine rsn 2 (t := (117, [(5, .int 1), (4, .int ((-1))), (3, .int ((mI m 2 5))), (0, .ref 2), (1, .ref x1), (2, .int x2)], [.ref 2, .ref x1])) rfl ?_
            refine pgJ rfl rfl rfl (hSh.1.k 2 rfl _) ?_
            show RN xs L al (Ev xs L al d) 35 120 [(5, .int 1), (4, .int ((-1))), (3, .int ((mI m 2 5))), (0, .ref 2), (1, .ref x1), (2, .int x2)] [.long ((mJ m13 2 6)), .ref x1] (m13, S) (some (.int r0)) (mf, S)
            obtain ⟨r19, g19, h⟩ := b1_some h
            refine rcV 29 x1 [.long ((mJ m13 2 6))] rfl rfl rfl (hSh.kW hx1 _) (Nat.le_of_ble_eq_true rfl) rfl (e_Will_heirNamed N (by omega) hSh hx1 g19) ?_
            show RN xs L al (Ev xs L al d) 35 123 [(5, .int 1), (4, .int ((-1))), (3, .int ((mI m 2 5))), (0, .ref 2), (1, .ref x1), (2, .int x2)] [.int r19] (m13, S) (some (.int r0)) (mf, S)
            refine rsn 1 (t := (127, [(5, .int 1), (4, .int ((-1))), (3, .int ((mI m 2 5))), (0, .ref 2), (1, .ref x1), (2, .int x2)], [.int r19])) rfl ?_
            exact rsub [(0, .ref 2), (1, .ref x1), (2, .int x2), (3, .int ((mI m 2 5))), (5, .int 1)] ⟨rfl, ⟨rfl, ⟨rfl, ⟨rfl, ⟨rfl, trivial⟩⟩⟩⟩⟩ ⟨rfl, ⟨rfl, ⟨rfl, ⟨rfl, ⟨rfl, trivial⟩⟩⟩⟩⟩ (jp127 r19 h)
        · rw [if_neg c11] at h
          refine rjt (a := (140, [(5, .int 2), (4, .int ((-1))), (3, .int ((mI m 2 5))), (0, .ref 2), (1, .ref x1), (2, .int x2)], [])) (b := (101, [(5, .int 2), (4, .int ((-1))), (3, .int ((mI m 2 5))), (0, .ref 2), (1, .ref x1), (2, .int x2)], [])) rfl rfl (fun q => c11 (lgc_eq.mp q)) ?_
          refine rsn 1 (t := (141, [(5, .int 2), (4, .int ((-1))), (3, .int ((mI m 2 5))), (0, .ref 2), (1, .ref x1), (2, .int x2)], [.ref 2])) rfl ?_
          refine pgJ rfl rfl rfl (hSh.1.k 2 rfl _) ?_
          show RN xs L al (Ev xs L al d) 35 144 [(5, .int 2), (4, .int ((-1))), (3, .int ((mI m 2 5))), (0, .ref 2), (1, .ref x1), (2, .int x2)] [.long ((mJ m3 2 6))] (m3, S) (some (.int r0)) (mf, S)
          refine rsn 2 (t := (148, [(5, .int 2), (4, .int ((-1))), (3, .int ((mI m 2 5))), (0, .ref 2), (1, .ref x1), (2, .int x2)], [.int ((lg_cmp ((mJ m3 2 6)) 1852796517))])) rfl ?_
          by_cases c12 : ((mJ m3 2 6)) = 1852796517
          · rw [if_pos c12] at h
            refine rjt (a := (153, [(5, .int 2), (4, .int ((-1))), (3, .int ((mI m 2 5))), (0, .ref 2), (1, .ref x1), (2, .int x2)], [])) (b := (151, [(5, .int 2), (4, .int ((-1))), (3, .int ((mI m 2 5))), (0, .ref 2), (1, .ref x1), (2, .int x2)], [])) rfl rfl (lgc_eq.mpr c12) ?_
            exact rsub [(0, .ref 2), (1, .ref x1), (2, .int x2), (3, .int ((mI m 2 5))), (4, .int ((-1))), (5, .int 2)] ⟨rfl, ⟨rfl, ⟨rfl, ⟨rfl, ⟨rfl, ⟨rfl, trivial⟩⟩⟩⟩⟩⟩ ⟨rfl, ⟨rfl, ⟨rfl, ⟨rfl, ⟨rfl, ⟨rfl, trivial⟩⟩⟩⟩⟩⟩ (jp153 ((-1)) 2 m3 h)
          · rw [if_neg c12] at h
            refine rjf (a := (153, [(5, .int 2), (4, .int ((-1))), (3, .int ((mI m 2 5))), (0, .ref 2), (1, .ref x1), (2, .int x2)], [])) (b := (151, [(5, .int 2), (4, .int ((-1))), (3, .int ((mI m 2 5))), (0, .ref 2), (1, .ref x1), (2, .int x2)], [])) rfl rfl (fun q => c12 (lgc_eq.mp q)) ?_
            refine rsn 1 (t := (152, [(5, .int 2), (4, .int ((-1))), (3, .int ((mI m 2 5))), (0, .ref 2), (1, .ref x1), (2, .int x2)], [.int 0])) rfl ?_
            obtain ⟨h, h2⟩ := Prod.mk.inj (Option.some.inj h)
            subst h
            subst h2
            exact rret rfl ⟨rfl, rfl, _, _, rfl, rfl, rfl, rfl⟩
    · rw [if_neg c4] at h
      refine rjf (a := (46, [(3, .int ((mI m 2 5))), (0, .ref 2), (1, .ref x1), (2, .int x2)], [])) (b := (44, [(3, .int ((mI m 2 5))), (0, .ref 2), (1, .ref x1), (2, .int x2)], [])) rfl rfl c4 ?_
      refine rsn 1 (t := (45, [(3, .int ((mI m 2 5))), (0, .ref 2), (1, .ref x1), (2, .int x2)], [.int 0])) rfl ?_
      obtain ⟨h, h2⟩ := Prod.mk.inj (Option.some.inj h)
      subst h
      subst h2
      exact rret rfl ⟨rfl, rfl, _, _, rfl, rfl, rfl, rfl⟩
def f_Will_addDay (N : Nat) (S : St) (x0 : Nat) (x1 : Int32) (m : Mm) : Option (Mm) := b1 (f_Will_hasRoomForDay N S x0 m) fun r1 => (if r1 = 0 then some m else ck (ix ((mI m x0 1)) 6) (some (vI (vX m ((x0 + 3)) (((mI m x0 1)).toNatClampNeg) x1) x0 1 ((((mI m x0 1)) + 1)))))
set_option maxRecDepth 20000 in
set_option maxHeartbeats 4000000 in
theorem e_Will_addDay {xs : Nat → Int32} {L : Nat} {al : Bool} (N : Nat) {d : Nat} (hd : 2 ≤ d) {S : St} (hSh : ShC S) {x0 : Nat} {x1 : Int32} (hx0 : x0 ∈ wKl) {m : Mm} {mf : Mm} (h : f_Will_addDay N S x0 x1 m = some mf) : Ev xs L al d 38 [.ref x0, .int x1] (m, S) none (mf, S) := by
  obtain ⟨d, rfl⟩ : ∃ e, d = e + 1 := ⟨d - 1, by omega⟩
  refine ev_of (by decide) (Nat.le_of_ble_eq_true rfl) ?_
  rw [f_Will_addDay] at h
  show RN xs L al (Ev xs L al d) 38 0 [(0, .ref x0), (1, .int x1)] [] (m, S) none (mf, S)
  refine rsn 1 (t := (1, [(0, .ref x0), (1, .int x1)], [.ref x0])) rfl ?_
  obtain ⟨r1, g1, h⟩ := b1_some h
  refine rcV 34 x0 [] rfl rfl rfl (hSh.kW hx0 _) (Nat.le_of_ble_eq_true rfl) rfl (e_Will_hasRoomForDay N (by omega) hSh hx0 g1) ?_
  show RN xs L al (Ev xs L al d) 38 4 [(0, .ref x0), (1, .int x1)] [.int r1] (m, S) none (mf, S)
  by_cases c2 : r1 = 0
  · rw [if_pos c2] at h
    refine rjt (a := (27, [(0, .ref x0), (1, .int x1)], [])) (b := (7, [(0, .ref x0), (1, .int x1)], [])) rfl rfl c2 ?_
    have h := Option.some.inj h
    subst h
    exact rret rfl ⟨rfl, rfl, rfl, rfl, rfl⟩
  · rw [if_neg c2] at h
    refine rjf (a := (27, [(0, .ref x0), (1, .int x1)], [])) (b := (7, [(0, .ref x0), (1, .int x1)], [])) rfl rfl c2 ?_
    refine rsn 1 (t := (8, [(0, .ref x0), (1, .int x1)], [.ref x0])) rfl ?_
    refine rgR rfl rfl rfl (hSh.kW hx0 _) (hSh.rWa3 hx0 _) ?_
    refine rsn 1 (t := (12, [(0, .ref x0), (1, .int x1)], [.ref x0, .ref ((x0 + 3))])) rfl ?_
    refine pgI rfl rfl rfl (hSh.kW hx0 _) ?_
    show RN xs L al (Ev xs L al d) 38 15 [(0, .ref x0), (1, .int x1)] [.int ((mI m x0 1)), .ref ((x0 + 3))] (m, S) none (mf, S)
    refine rsn 1 (t := (16, [(0, .ref x0), (1, .int x1)], [.int x1, .int ((mI m x0 1)), .ref ((x0 + 3))])) rfl ?_
    obtain ⟨c3, h⟩ := ck_some h
    refine psI rfl (hSh.kWa3 hx0 _) (hSh.lWa3 hx0 _) c3 ?_
    refine rsn 2 (t := (19, [(0, .ref x0), (1, .int x1)], [.ref x0, .ref x0])) rfl ?_
    refine pgI rfl rfl rfl (hSh.kW hx0 _) ?_
    show RN xs L al (Ev xs L al d) 38 22 [(0, .ref x0), (1, .int x1)] [.int ((mI m x0 1)), .ref x0] ((vX m ((x0 + 3)) (((mI m x0 1)).toNatClampNeg) x1), S) none (mf, S)
    refine rsn 2 (t := (24, [(0, .ref x0), (1, .int x1)], [.int ((((mI m x0 1)) + 1)), .ref x0])) rfl ?_
    refine ppI rfl rfl rfl rfl (hSh.kW hx0 _) ?_
    have h := Option.some.inj h
    subst h
    exact rret rfl ⟨rfl, rfl, rfl, rfl, rfl⟩
def f_Reader_readDay_L20 (N : Nat) (S : St) (x1 : Nat) (k20 : Int32 → Mm → Option (Int32 × Mm)) : Nat → Int32 → Mm → Option (Int32 × Mm)
  | 0, _, _ => none
  | n20 + 1, x2, m => (if 3 ≤ x2 then k20 x2 m else b2 (f_Reader_readAlt N S x1 x2 m) fun r5 m5 => (if r5 = 0 then some (0, m5) else (jn (fun (_ : Unit) => (if ((mI m5 2 3)) = 3 then (if x2 = 2 then some (0, m5) else b3 (f_Reader_step N S m5) fun m9 => f_Reader_readDay_L20 N S x1 k20 n20 ((x2 + 1)) m9) else some (0, m5))) (fun j66 => if ((mI m5 2 3)) = 4 then (if ((mI m5 2 7)) = 12 then b3 (f_Will_addDay N S x1 ((x2 + 1)) m5) fun m12 => b3 (f_Reader_step N S m12) fun m13 => some (1, m13) else j66 ()) else j66 ()))))
def f_Reader_readDay (N : Nat) (S : St) (x1 : Nat) (m : Mm) : Option (Int32 × Mm) := b1 (f_Will_hasRoomForDay N S x1 m) fun r1 => (if r1 = 0 then some (0, m) else b3 (f_Reader_step N S m) fun m3 => f_Reader_readDay_L20 N S x1 (fun (z14_2 : Int32) (m14 : Mm) => some (0, m14)) N 0 (vI m3 2 7 0))
set_option maxRecDepth 20000 in
set_option maxHeartbeats 4000000 in
theorem e_Reader_readDay {xs : Nat → Int32} {L : Nat} {al : Bool} (N : Nat) {d : Nat} (hd : 5 ≤ d) {S : St} (hSh : ShC S) {x1 : Nat} (hx1 : x1 ∈ wKl) {m : Mm} {r0 : Int32} {mf : Mm} (h : f_Reader_readDay N S x1 m = some (r0, mf)) : Ev xs L al d 33 [.ref 2, .ref x1] (m, S) (some (.int r0)) (mf, S) := by
  obtain ⟨d, rfl⟩ : ∃ e, d = e + 1 := ⟨d - 1, by omega⟩
  refine ev_of (by decide) (Nat.le_of_ble_eq_true rfl) ?_
  rw [f_Reader_readDay] at h
  show RN xs L al (Ev xs L al d) 33 0 [(0, .ref 2), (1, .ref x1)] [] (m, S) (some (.int r0)) (mf, S)
  refine rsn 1 (t := (1, [(0, .ref 2), (1, .ref x1)], [.ref x1])) rfl ?_
  obtain ⟨r1, g1, h⟩ := b1_some h
  refine rcV 34 x1 [] rfl rfl rfl (hSh.kW hx1 _) (Nat.le_of_ble_eq_true rfl) rfl (e_Will_hasRoomForDay N (by omega) hSh hx1 g1) ?_
  show RN xs L al (Ev xs L al d) 33 4 [(0, .ref 2), (1, .ref x1)] [.int r1] (m, S) (some (.int r0)) (mf, S)
  by_cases c2 : r1 = 0
  · rw [if_pos c2] at h
    refine rjf (a := (9, [(0, .ref 2), (1, .ref x1)], [])) (b := (7, [(0, .ref 2), (1, .ref x1)], [])) rfl rfl (fun q => q c2) ?_
    refine rsn 1 (t := (8, [(0, .ref 2), (1, .ref x1)], [.int 0])) rfl ?_
    obtain ⟨h, h2⟩ := Prod.mk.inj (Option.some.inj h)
    subst h
    subst h2
    exact rret rfl ⟨rfl, rfl, _, _, rfl, rfl, rfl, rfl⟩
  · rw [if_neg c2] at h
    refine rjt (a := (9, [(0, .ref 2), (1, .ref x1)], [])) (b := (7, [(0, .ref 2), (1, .ref x1)], [])) rfl rfl c2 ?_
    refine rsn 1 (t := (10, [(0, .ref 2), (1, .ref x1)], [.ref 2])) rfl ?_
    obtain ⟨m3, g3, h⟩ := b3_some h
    refine rcV 19 2 [] rfl rfl rfl (hSh.1.k 2 rfl _) (Nat.le_of_ble_eq_true rfl) rfl (e_Reader_step N (by omega) hSh g3) ?_
    show RN xs L al (Ev xs L al d) 33 13 [(0, .ref 2), (1, .ref x1)] [] (m3, S) (some (.int r0)) (mf, S)
    refine rsn 2 (t := (15, [(0, .ref 2), (1, .ref x1)], [.int 0, .ref 2])) rfl ?_
    refine ppI rfl rfl rfl rfl (hSh.1.k 2 rfl _) ?_
    refine rsn 2 (t := (20, [(2, .int 0), (0, .ref 2), (1, .ref x1)], [])) rfl ?_
    have ex20 : ∀ (z14_2 : Int32) (m14 : Mm), (some (0, m14)) = some (r0, mf) → RN xs L al (Ev xs L al d) 33 91 [] [] (m14, S) (some (.int r0)) (mf, S) := by
      intro z14_2 m14 h
      try dsimp only at h
      refine rsn 1 (t := (92, [], [.int 0])) rfl ?_
      obtain ⟨h, h2⟩ := Prod.mk.inj (Option.some.inj h)
      subst h
      subst h2
      exact rret rfl ⟨rfl, rfl, _, _, rfl, rfl, rfl, rfl⟩
    have lp20 : ∀ (n : Nat) (y15_2 : Int32) (m15 : Mm), (f_Reader_readDay_L20 N S x1 (fun (z14_2 : Int32) (m14 : Mm) => some (0, m14)) n y15_2 m15) = some (r0, mf) → RN xs L al (Ev xs L al d) 33 20 [(0, .ref 2), (1, .ref x1), (2, .int y15_2)] [] (m15, S) (some (.int r0)) (mf, S) := by
      intro n
      induction n with
      | zero => intro y15_2 m15 h; exact absurd h (by simp [f_Reader_readDay_L20])
      | succ n20 ih20 =>
        intro y15_2 m15 h
        try dsimp only at h
        rw [f_Reader_readDay_L20] at h
        try dsimp only at h
        refine rsn 2 (t := (22, [(0, .ref 2), (1, .ref x1), (2, .int y15_2)], [.int 3, .int y15_2])) rfl ?_
        by_cases c16 : 3 ≤ y15_2
        · rw [if_pos c16] at h
          refine rjt (a := (91, [(0, .ref 2), (1, .ref x1), (2, .int y15_2)], [])) (b := (25, [(0, .ref 2), (1, .ref x1), (2, .int y15_2)], [])) rfl rfl c16 ?_
          exact rsub [] trivial trivial (ex20 y15_2 m15 h)
        · rw [if_neg c16] at h
          refine rjf (a := (91, [(0, .ref 2), (1, .ref x1), (2, .int y15_2)], [])) (b := (25, [(0, .ref 2), (1, .ref x1), (2, .int y15_2)], [])) rfl rfl c16 ?_
          refine rsn 3 (t := (28, [(0, .ref 2), (1, .ref x1), (2, .int y15_2)], [.int y15_2, .ref x1, .ref 2])) rfl ?_
          obtain ⟨r17, m17, g17, h⟩ := b2_some h
          refine rcV 35 2 [.ref x1, .int y15_2] rfl rfl rfl (hSh.1.k 2 rfl _) (Nat.le_of_ble_eq_true rfl) rfl (e_Reader_readAlt N (by omega) hSh hx1 g17) ?_
          show RN xs L al (Ev xs L al d) 33 31 [(0, .ref 2), (1, .ref x1), (2, .int y15_2)] [.int r17] (m17, S) (some (.int r0)) (mf, S)
          by_cases c18 : r17 = 0
          · rw [if_pos c18] at h
            refine rjf (a := (36, [(0, .ref 2), (1, .ref x1), (2, .int y15_2)], [])) (b := (34, [(0, .ref 2), (1, .ref x1), (2, .int y15_2)], [])) rfl rfl (fun q => q c18) ?_
            refine rsn 1 (t := (35, [(0, .ref 2), (1, .ref x1), (2, .int y15_2)], [.int 0])) rfl ?_
            obtain ⟨h, h2⟩ := Prod.mk.inj (Option.some.inj h)
            subst h
            subst h2
            exact rret rfl ⟨rfl, rfl, _, _, rfl, rfl, rfl, rfl⟩
          · rw [if_neg c18] at h
            refine rjt (a := (36, [(0, .ref 2), (1, .ref x1), (2, .int y15_2)], [])) (b := (34, [(0, .ref 2), (1, .ref x1), (2, .int y15_2)], [])) rfl rfl c18 ?_
            refine rsn 1 (t := (37, [(0, .ref 2), (1, .ref x1), (2, .int y15_2)], [.ref 2])) rfl ?_
            refine pgI rfl rfl rfl (hSh.1.k 2 rfl _) ?_
            show RN xs L al (Ev xs L al d) 33 40 [(0, .ref 2), (1, .ref x1), (2, .int y15_2)] [.int ((mI m17 2 3))] (m17, S) (some (.int r0)) (mf, S)
            refine rsn 1 (t := (41, [(0, .ref 2), (1, .ref x1), (2, .int y15_2)], [.int 4, .int ((mI m17 2 3))])) rfl ?_
            have jp66 : ∀ (_ : Unit), ((if ((mI m17 2 3)) = 3 then (if y15_2 = 2 then some (0, m17) else b3 (f_Reader_step N S m17) fun m21 => f_Reader_readDay_L20 N S x1 (fun (z14_2 : Int32) (m14 : Mm) => some (0, m14)) n20 ((y15_2 + 1)) m21) else some (0, m17))) = some (r0, mf) → RN xs L al (Ev xs L al d) 33 66 [(0, .ref 2), (1, .ref x1), (2, .int y15_2)] [] (m17, S) (some (.int r0)) (mf, S) := by
              intro _ h
              try dsimp only at h
              refine rsn 1 (t := (67, [(0, .ref 2), (1, .ref x1), (2, .int y15_2)], [.ref 2])) rfl ?_
              refine pgI rfl rfl rfl (hSh.1.k 2 rfl _) ?_
              show RN xs L al (Ev xs L al d) 33 70 [(0, .ref 2), (1, .ref x1), (2, .int y15_2)] [.int ((mI m17 2 3))] (m17, S) (some (.int r0)) (mf, S)
              refine rsn 1 (t := (71, [(0, .ref 2), (1, .ref x1), (2, .int y15_2)], [.int 3, .int ((mI m17 2 3))])) rfl ?_
              by_cases c19 : ((mI m17 2 3)) = 3
              · rw [if_pos c19] at h
                refine rjf (a := (79, [(0, .ref 2), (1, .ref x1), (2, .int y15_2)], [])) (b := (74, [(0, .ref 2), (1, .ref x1), (2, .int y15_2)], [])) rfl rfl (fun q => q c19) ?_
                refine rsn 2 (t := (76, [(0, .ref 2), (1, .ref x1), (2, .int y15_2)], [.int 2, .int y15_2])) rfl ?_
                by_cases c20 : y15_2 = 2
                · rw [if_pos c20] at h
                  refine rjf (a := (81, [(0, .ref 2), (1, .ref x1), (2, .int y15_2)], [])) (b := (79, [(0, .ref 2), (1, .ref x1), (2, .int y15_2)], [])) rfl rfl (fun q => q c20) ?_
                  refine rsn 1 (t := (80, [(0, .ref 2), (1, .ref x1), (2, .int y15_2)], [.int 0])) rfl ?_
                  obtain ⟨h, h2⟩ := Prod.mk.inj (Option.some.inj h)
                  subst h
                  subst h2
                  exact rret rfl ⟨rfl, rfl, _, _, rfl, rfl, rfl, rfl⟩
                · rw [if_neg c20] at h
                  refine rjt (a := (81, [(0, .ref 2), (1, .ref x1), (2, .int y15_2)], [])) (b := (79, [(0, .ref 2), (1, .ref x1), (2, .int y15_2)], [])) rfl rfl c20 ?_
                  refine rsn 1 (t := (82, [(0, .ref 2), (1, .ref x1), (2, .int y15_2)], [.ref 2])) rfl ?_
                  obtain ⟨m21, g21, h⟩ := b3_some h
                  refine rcV 19 2 [] rfl rfl rfl (hSh.1.k 2 rfl _) (Nat.le_of_ble_eq_true rfl) rfl (e_Reader_step N (by omega) hSh g21) ?_
                  show RN xs L al (Ev xs L al d) 33 85 [(0, .ref 2), (1, .ref x1), (2, .int y15_2)] [] (m21, S) (some (.int r0)) (mf, S)
                  refine rsn 2 (t := (20, [(2, .int ((y15_2 + 1))), (0, .ref 2), (1, .ref x1)], [])) rfl ?_
                  exact rsub [(0, .ref 2), (1, .ref x1), (2, .int ((y15_2 + 1)))] ⟨rfl, ⟨rfl, ⟨rfl, trivial⟩⟩⟩ ⟨rfl, ⟨rfl, ⟨rfl, trivial⟩⟩⟩ (ih20 ((y15_2 + 1)) m21 h)
              · rw [if_neg c19] at h
                refine rjt (a := (79, [(0, .ref 2), (1, .ref x1), (2, .int y15_2)], [])) (b := (74, [(0, .ref 2), (1, .ref x1), (2, .int y15_2)], [])) rfl rfl c19 ?_
                refine rsn 1 (t := (80, [(0, .ref 2), (1, .ref x1), (2, .int y15_2)], [.int 0])) rfl ?_
                obtain ⟨h, h2⟩ := Prod.mk.inj (Option.some.inj h)
                subst h
                subst h2
                exact rret rfl ⟨rfl, rfl, _, _, rfl, rfl, rfl, rfl⟩
            rw [jn] at h
            try dsimp only at h
            by_cases c22 : ((mI m17 2 3)) = 4
            · rw [if_pos c22] at h
              refine rjf (a := (66, [(0, .ref 2), (1, .ref x1), (2, .int y15_2)], [])) (b := (44, [(0, .ref 2), (1, .ref x1), (2, .int y15_2)], [])) rfl rfl (fun q => q c22) ?_
              refine rsn 1 (t := (45, [(0, .ref 2), (1, .ref x1), (2, .int y15_2)], [.ref 2])) rfl ?_
              refine pgI rfl rfl rfl (hSh.1.k 2 rfl _) ?_
              show RN xs L al (Ev xs L al d) 33 48 [(0, .ref 2), (1, .ref x1), (2, .int y15_2)] [.int ((mI m17 2 7))] (m17, S) (some (.int r0)) (mf, S)
              refine rsn 1 (t := (50, [(0, .ref 2), (1, .ref x1), (2, .int y15_2)], [.int 12, .int ((mI m17 2 7))])) rfl ?_
              by_cases c23 : ((mI m17 2 7)) = 12
              · rw [if_pos c23] at h
                refine rjf (a := (66, [(0, .ref 2), (1, .ref x1), (2, .int y15_2)], [])) (b := (53, [(0, .ref 2), (1, .ref x1), (2, .int y15_2)], [])) rfl rfl (fun q => q c23) ?_
                refine rsn 4 (t := (57, [(0, .ref 2), (1, .ref x1), (2, .int y15_2)], [.int ((y15_2 + 1)), .ref x1])) rfl ?_
                obtain ⟨m24, g24, h⟩ := b3_some h
                refine rcV 38 x1 [.int ((y15_2 + 1))] rfl rfl rfl (hSh.kW hx1 _) (Nat.le_of_ble_eq_true rfl) rfl (e_Will_addDay N (by omega) hSh hx1 g24) ?_
                show RN xs L al (Ev xs L al d) 33 60 [(0, .ref 2), (1, .ref x1), (2, .int y15_2)] [] (m24, S) (some (.int r0)) (mf, S)
                refine rsn 1 (t := (61, [(0, .ref 2), (1, .ref x1), (2, .int y15_2)], [.ref 2])) rfl ?_
                obtain ⟨m25, g25, h⟩ := b3_some h
                refine rcV 19 2 [] rfl rfl rfl (hSh.1.k 2 rfl _) (Nat.le_of_ble_eq_true rfl) rfl (e_Reader_step N (by omega) hSh g25) ?_
                show RN xs L al (Ev xs L al d) 33 64 [(0, .ref 2), (1, .ref x1), (2, .int y15_2)] [] (m25, S) (some (.int r0)) (mf, S)
                refine rsn 1 (t := (65, [(0, .ref 2), (1, .ref x1), (2, .int y15_2)], [.int 1])) rfl ?_
                obtain ⟨h, h2⟩ := Prod.mk.inj (Option.some.inj h)
                subst h
                subst h2
                exact rret rfl ⟨rfl, rfl, _, _, rfl, rfl, rfl, rfl⟩
              · rw [if_neg c23] at h
                refine rjt (a := (66, [(0, .ref 2), (1, .ref x1), (2, .int y15_2)], [])) (b := (53, [(0, .ref 2), (1, .ref x1), (2, .int y15_2)], [])) rfl rfl c23 ?_
                exact rsub [(0, .ref 2), (1, .ref x1), (2, .int y15_2)] ⟨rfl, ⟨rfl, ⟨rfl, trivial⟩⟩⟩ ⟨rfl, ⟨rfl, ⟨rfl, trivial⟩⟩⟩ (jp66 () h)
            · rw [if_neg c22] at h
              refine rjt (a := (66, [(0, .ref 2), (1, .ref x1), (2, .int y15_2)], [])) (b := (44, [(0, .ref 2), (1, .ref x1), (2, .int y15_2)], [])) rfl rfl c22 ?_
              exact rsub [(0, .ref 2), (1, .ref x1), (2, .int y15_2)] ⟨rfl, ⟨rfl, ⟨rfl, trivial⟩⟩⟩ ⟨rfl, ⟨rfl, ⟨rfl, trivial⟩⟩⟩ (jp66 () h)
    exact rsub [(0, .ref 2), (1, .ref x1), (2, .int 0)] ⟨rfl, ⟨rfl, ⟨rfl, trivial⟩⟩⟩ ⟨rfl, ⟨rfl, ⟨rfl, trivial⟩⟩⟩ (lp20 N 0 (vI m3 2 7 0) h)
def f_Reader_passSemicolon (N : Nat) (S : St) (m : Mm) : Option (Int32 × Mm) := b3 (f_Reader_step N S m) fun m1 => (if ((mI m1 2 3)) = 4 then b3 (f_Reader_step N S m1) fun m3 => some (1, m3) else some (0, m1))
set_option maxRecDepth 20000 in
set_option maxHeartbeats 4000000 in
theorem e_Reader_passSemicolon {xs : Nat → Int32} {L : Nat} {al : Bool} (N : Nat) {d : Nat} (hd : 4 ≤ d) {S : St} (hSh : ShC S) {m : Mm} {r0 : Int32} {mf : Mm} (h : f_Reader_passSemicolon N S m = some (r0, mf)) : Ev xs L al d 40 [.ref 2] (m, S) (some (.int r0)) (mf, S) := by
  obtain ⟨d, rfl⟩ : ∃ e, d = e + 1 := ⟨d - 1, by omega⟩
  refine ev_of (by decide) (Nat.le_of_ble_eq_true rfl) ?_
  rw [f_Reader_passSemicolon] at h
  show RN xs L al (Ev xs L al d) 40 0 [(0, .ref 2)] [] (m, S) (some (.int r0)) (mf, S)
  refine rsn 1 (t := (1, [(0, .ref 2)], [.ref 2])) rfl ?_
  obtain ⟨m1, g1, h⟩ := b3_some h
  refine rcV 19 2 [] rfl rfl rfl (hSh.1.k 2 rfl _) (Nat.le_of_ble_eq_true rfl) rfl (e_Reader_step N (by omega) hSh g1) ?_
  show RN xs L al (Ev xs L al d) 40 4 [(0, .ref 2)] [] (m1, S) (some (.int r0)) (mf, S)
  refine rsn 1 (t := (5, [(0, .ref 2)], [.ref 2])) rfl ?_
  refine pgI rfl rfl rfl (hSh.1.k 2 rfl _) ?_
  show RN xs L al (Ev xs L al d) 40 8 [(0, .ref 2)] [.int ((mI m1 2 3))] (m1, S) (some (.int r0)) (mf, S)
  refine rsn 1 (t := (9, [(0, .ref 2)], [.int 4, .int ((mI m1 2 3))])) rfl ?_
  by_cases c2 : ((mI m1 2 3)) = 4
  · rw [if_pos c2] at h
    refine rjt (a := (14, [(0, .ref 2)], [])) (b := (12, [(0, .ref 2)], [])) rfl rfl c2 ?_
    refine rsn 1 (t := (15, [(0, .ref 2)], [.ref 2])) rfl ?_
    obtain ⟨m3, g3, h⟩ := b3_some h
    refine rcV 19 2 [] rfl rfl rfl (hSh.1.k 2 rfl _) (Nat.le_of_ble_eq_true rfl) rfl (e_Reader_step N (by omega) hSh g3) ?_
    show RN xs L al (Ev xs L al d) 40 18 [(0, .ref 2)] [] (m3, S) (some (.int r0)) (mf, S)
    refine rsn 1 (t := (19, [(0, .ref 2)], [.int 1])) rfl ?_
    obtain ⟨h, h2⟩ := Prod.mk.inj (Option.some.inj h)
    subst h
    subst h2
    exact rret rfl ⟨rfl, rfl, _, _, rfl, rfl, rfl, rfl⟩
  · rw [if_neg c2] at h
    refine rjf (a := (14, [(0, .ref 2)], [])) (b := (12, [(0, .ref 2)], [])) rfl rfl c2 ?_
    refine rsn 1 (t := (13, [(0, .ref 2)], [.int 0])) rfl ?_
    obtain ⟨h, h2⟩ := Prod.mk.inj (Option.some.inj h)
    subst h
    subst h2
    exact rret rfl ⟨rfl, rfl, _, _, rfl, rfl, rfl, rfl⟩
def f_Reader_readHold (N : Nat) (S : St) (x1 : Nat) (m : Mm) : Option (Int32 × Mm) := (if ((mI m x1 4)) = 0 then b3 (f_Reader_step N S m) fun m2 => b1 (f_Reader_isNumber N S 0 2 m2) fun r3 => (if r3 = 0 then some (0, m2) else b2 (f_Reader_passSemicolon N S (vI (vI m2 x1 2 ((mI m2 2 5))) x1 4 1)) fun r5 m5 => ck (r5 = 0 ∨ r5 = 1) (some (r5, m5))) else some (0, m))
set_option maxRecDepth 20000 in
set_option maxHeartbeats 4000000 in
theorem e_Reader_readHold {xs : Nat → Int32} {L : Nat} {al : Bool} (N : Nat) {d : Nat} (hd : 5 ≤ d) {S : St} (hSh : ShC S) {x1 : Nat} (hx1 : x1 ∈ wKl) {m : Mm} {r0 : Int32} {mf : Mm} (h : f_Reader_readHold N S x1 m = some (r0, mf)) : Ev xs L al d 39 [.ref 2, .ref x1] (m, S) (some (.int r0)) (mf, S) := by
  obtain ⟨d, rfl⟩ : ∃ e, d = e + 1 := ⟨d - 1, by omega⟩
  refine ev_of (by decide) (Nat.le_of_ble_eq_true rfl) ?_
  rw [f_Reader_readHold] at h
  show RN xs L al (Ev xs L al d) 39 0 [(0, .ref 2), (1, .ref x1)] [] (m, S) (some (.int r0)) (mf, S)
  refine rsn 1 (t := (1, [(0, .ref 2), (1, .ref x1)], [.ref x1])) rfl ?_
  refine pgI rfl rfl rfl (hSh.kW hx1 _) ?_
  show RN xs L al (Ev xs L al d) 39 4 [(0, .ref 2), (1, .ref x1)] [.int ((mI m x1 4))] (m, S) (some (.int r0)) (mf, S)
  by_cases c1 : ((mI m x1 4)) = 0
  · rw [if_pos c1] at h
    refine rjt (a := (9, [(0, .ref 2), (1, .ref x1)], [])) (b := (7, [(0, .ref 2), (1, .ref x1)], [])) rfl rfl c1 ?_
    refine rsn 1 (t := (10, [(0, .ref 2), (1, .ref x1)], [.ref 2])) rfl ?_
    obtain ⟨m2, g2, h⟩ := b3_some h
    refine rcV 19 2 [] rfl rfl rfl (hSh.1.k 2 rfl _) (Nat.le_of_ble_eq_true rfl) rfl (e_Reader_step N (by omega) hSh g2) ?_
    show RN xs L al (Ev xs L al d) 39 13 [(0, .ref 2), (1, .ref x1)] [] (m2, S) (some (.int r0)) (mf, S)
    refine rsn 3 (t := (16, [(0, .ref 2), (1, .ref x1)], [.int 2, .int 0, .ref 2])) rfl ?_
    obtain ⟨r3, g3, h⟩ := b1_some h
    refine rcV 30 2 [.int 0, .int 2] rfl rfl rfl (hSh.1.k 2 rfl _) (Nat.le_of_ble_eq_true rfl) rfl (e_Reader_isNumber N (by omega) hSh g3) ?_
    show RN xs L al (Ev xs L al d) 39 19 [(0, .ref 2), (1, .ref x1)] [.int r3] (m2, S) (some (.int r0)) (mf, S)
    by_cases c4 : r3 = 0
    · rw [if_pos c4] at h
      refine rjf (a := (24, [(0, .ref 2), (1, .ref x1)], [])) (b := (22, [(0, .ref 2), (1, .ref x1)], [])) rfl rfl (fun q => q c4) ?_
      refine rsn 1 (t := (23, [(0, .ref 2), (1, .ref x1)], [.int 0])) rfl ?_
      obtain ⟨h, h2⟩ := Prod.mk.inj (Option.some.inj h)
      subst h
      subst h2
      exact rret rfl ⟨rfl, rfl, _, _, rfl, rfl, rfl, rfl⟩
    · rw [if_neg c4] at h
      refine rjt (a := (24, [(0, .ref 2), (1, .ref x1)], [])) (b := (22, [(0, .ref 2), (1, .ref x1)], [])) rfl rfl c4 ?_
      refine rsn 2 (t := (26, [(0, .ref 2), (1, .ref x1)], [.ref 2, .ref x1])) rfl ?_
      refine pgI rfl rfl rfl (hSh.1.k 2 rfl _) ?_
      show RN xs L al (Ev xs L al d) 39 29 [(0, .ref 2), (1, .ref x1)] [.int ((mI m2 2 5)), .ref x1] (m2, S) (some (.int r0)) (mf, S)
      refine ppI rfl rfl rfl rfl (hSh.kW hx1 _) ?_
      refine rsn 2 (t := (34, [(0, .ref 2), (1, .ref x1)], [.int 1, .ref x1])) rfl ?_
      refine ppZ rfl rfl rfl rfl (hSh.kW hx1 _) (Or.inr rfl) ?_
      refine rsn 1 (t := (38, [(0, .ref 2), (1, .ref x1)], [.ref 2])) rfl ?_
      obtain ⟨r5, m5, g5, h⟩ := b2_some h
      refine rcV 40 2 [] rfl rfl rfl (hSh.1.k 2 rfl _) (Nat.le_of_ble_eq_true rfl) rfl (e_Reader_passSemicolon N (by omega) hSh g5) ?_
      show RN xs L al (Ev xs L al d) 39 41 [(0, .ref 2), (1, .ref x1)] [.int r5] (m5, S) (some (.int r0)) (mf, S)
      obtain ⟨c6, h⟩ := ck_some h
      obtain ⟨h, h2⟩ := Prod.mk.inj (Option.some.inj h)
      subst h
      subst h2
      exact rret rfl ⟨rfl, rfl, _, _, rfl, rfl, rfl, nz_of c6⟩
  · rw [if_neg c1] at h
    refine rjf (a := (9, [(0, .ref 2), (1, .ref x1)], [])) (b := (7, [(0, .ref 2), (1, .ref x1)], [])) rfl rfl c1 ?_
    refine rsn 1 (t := (8, [(0, .ref 2), (1, .ref x1)], [.int 0])) rfl ?_
    obtain ⟨h, h2⟩ := Prod.mk.inj (Option.some.inj h)
    subst h
    subst h2
    exact rret rfl ⟨rfl, rfl, _, _, rfl, rfl, rfl, rfl⟩
