/-! The class's methods as functions (printed by wip/whole/gen_fun.py). -/
def f_Will_mayBringThing_L2 (N : Nat) (S : St) (x0 : Nat) (x1 : Int32) (m : Mm) (k2 : Int32 → Option (Int32)) : Nat → Int32 → Option (Int32)
  | 0, _ => none
  | n2 + 1, x2 => f_Will_mayBringThing_L2 N S x0 x1 m k2 n2 x2
def f_Will_mayBringThing (N : Nat) (S : St) (x0 : Nat) (x1 : Int32) (m : Mm) : Option (Int32) := f_Will_mayBringThing_L2 N S x0 x1 m (fun (z1_2 : Int32) => some 0) N 0
set_option maxRecDepth 20000 in
set_option maxHeartbeats 4000000 in
theorem e_Will_mayBringThing {xs : Nat → Int32} {L : Nat} {al : Bool} (N : Nat) {d : Nat} (hd : 3 ≤ d) {S : St} (hSh : ShC S) {x0 : Nat} {x1 : Int32} (hx0 : x0 ∈ wKl) {m : Mm} {r0 : Int32} (h : f_Will_mayBringThing N S x0 x1 m = some r0) : Ev xs L al d 47 [.ref x0, .int x1] (m, S) (some (.int r0)) (m, S) := by
  obtain ⟨d, rfl⟩ : ∃ e, d = e + 1 := ⟨d - 1, by omega⟩
  refine ev_of (by decide) (Nat.le_of_ble_eq_true rfl) ?_
  rw [f_Will_mayBringThing] at h
  show RN xs L al (Ev xs L al d) 47 0 [(0, .ref x0), (1, .int x1)] [] (m, S) (some (.int r0)) (m, S)
  refine rsn 2 (t := (2, [(2, .int 0), (0, .ref x0), (1, .int x1)], [])) rfl ?_
  have ex2 : ∀ (z1_2 : Int32), (some 0) = some r0 → RN xs L al (Ev xs L al d) 47 28 [] [] (m, S) (some (.int r0)) (m, S) := by
    intro z1_2 h
    try dsimp only at h
    refine rsn 1 (t := (29, [], [.int 0])) rfl ?_
    cases h
    exact rret rfl ⟨rfl, rfl, _, _, rfl, rfl, rfl, rfl⟩
  have lp2 : ∀ (n : Nat) (y2_2 : Int32), (f_Will_mayBringThing_L2 N S x0 x1 m (fun (z1_2 : Int32) => some 0) n y2_2) = some r0 → RN xs L al (Ev xs L al d) 47 2 [(0, .ref x0), (1, .int x1), (2, .int y2_2)] [] (m, S) (some (.int r0)) (m, S) := by
    intro n
    induction n with
    | zero => intro y2_2 h; exact absurd h (by simp [f_Will_mayBringThing_L2])
    | succ n2 ih2 =>
      intro y2_2 h
      try dsimp only at h
      rw [f_Will_mayBringThing_L2] at h
      try dsimp only at h
      exact rsub [(0, .ref x0), (1, .int x1), (2, .int y2_2)] ⟨rfl, ⟨rfl, ⟨rfl, trivial⟩⟩⟩ ⟨rfl, ⟨rfl, ⟨rfl, trivial⟩⟩⟩ (ih2 y2_2 h)
  exact rsub [(0, .ref x0), (1, .int x1), (2, .int 0)] ⟨rfl, ⟨rfl, ⟨rfl, trivial⟩⟩⟩ ⟨rfl, ⟨rfl, ⟨rfl, trivial⟩⟩⟩ (lp2 N 0 h)
def f_Ranks_layOut_L20 (N : Nat) (S : St) (x1 : Nat) (k20 : Int32 → Mm → Option (Mm)) : Nat → Int32 → Mm → Option (Mm)
  | 0, _, _ => none
  | n20 + 1, x2, m => f_Ranks_layOut_L20 N S x1 k20 n20 x2 m
def f_Ranks_layOut_L104 (N : Nat) (S : St) (x1 : Nat) (k104 : Int32 → Int32 → Int32 → Mm → Option (Mm)) : Nat → Int32 → Int32 → Int32 → Mm → Option (Mm)
  | 0, _, _, _, _ => none
  | n104 + 1, x2, x3, x4, m => f_Ranks_layOut_L104 N S x1 k104 n104 x2 x3 x4 m
def f_Ranks_layOut (N : Nat) (S : St) (x1 : Nat) (m : Mm) : Option (Mm) := f_Ranks_layOut_L20 N S x1 (fun (z1_2 : Int32) (m1 : Mm) => f_Ranks_layOut_L104 N S x1 (fun (z2_2 : Int32) (z2_3 : Int32) (z2_4 : Int32) (m2 : Mm) => ck (ix ((((mI m2 18 11)) + 1)) 8) (some (vX m2 26 (((((mI m2 18 11)) + 1)).toNatClampNeg) z2_3))) N 0 0 0 m1) N 0 (vI (vI m 18 11 ((if 6 < ((mI m x1 1)) then 6 else ((mI m x1 1))))) 18 10 1)
set_option maxRecDepth 20000 in
set_option maxHeartbeats 4000000 in
theorem e_Ranks_layOut {xs : Nat → Int32} {L : Nat} {al : Bool} (N : Nat) {d : Nat} (hd : 4 ≤ d) {S : St} (hSh : ShC S) {x1 : Nat} (hx1 : x1 ∈ wKl) {m : Mm} {mf : Mm} (h : f_Ranks_layOut N S x1 m = some mf) : Ev xs L al d 45 [.ref 18, .ref x1] (m, S) none (mf, S) := by
  obtain ⟨d, rfl⟩ : ∃ e, d = e + 1 := ⟨d - 1, by omega⟩
  refine ev_of (by decide) (Nat.le_of_ble_eq_true rfl) ?_
  rw [f_Ranks_layOut] at h
  show RN xs L al (Ev xs L al d) 45 0 [(0, .ref 18), (1, .ref x1)] [] (m, S) none (mf, S)
  refine rsn 2 (t := (2, [(0, .ref 18), (1, .ref x1)], [.ref x1, .ref 18])) rfl ?_
  refine pgI rfl rfl rfl (hSh.kW hx1 _) ?_
  show RN xs L al (Ev xs L al d) 45 5 [(0, .ref 18), (1, .ref x1)] [.int ((mI m x1 1)), .ref 18] (m, S) none (mf, S)
  refine rsn 1 (t := (7, [(0, .ref 18), (1, .ref x1)], [.int 6, .int ((mI m x1 1)), .ref 18])) rfl ?_
  refine rm (st1 := [.int ((if 6 < ((mI m x1 1)) then 6 else ((mI m x1 1)))), .ref 18]) rfl ⟨rfl, rfl, 2, [.ref 18], rfl, Nat.le_of_ble_eq_true rfl, Or.inr (Or.inr (Or.inl ⟨rfl, _, _, rfl, rfl⟩))⟩ ?_
  refine ppI rfl rfl rfl rfl (hSh.1.k 18 rfl _) ?_
  refine rsn 2 (t := (15, [(0, .ref 18), (1, .ref x1)], [.int 1, .ref 18])) rfl ?_
  refine ppI rfl rfl rfl rfl (hSh.1.k 18 rfl _) ?_
  refine rsn 2 (t := (20, [(2, .int 0), (0, .ref 18), (1, .ref x1)], [])) rfl ?_
  have ex20 : ∀ (z1_2 : Int32) (m1 : Mm), (f_Ranks_layOut_L104 N S x1 (fun (z2_2 : Int32) (z2_3 : Int32) (z2_4 : Int32) (m2 : Mm) => ck (ix ((((mI m2 18 11)) + 1)) 8) (some (vX m2 26 (((((mI m2 18 11)) + 1)).toNatClampNeg) z2_3))) N 0 0 0 m1) = some mf → RN xs L al (Ev xs L al d) 45 97 [(0, .ref 18), (1, .ref x1)] [] (m1, S) none (mf, S) := by
    intro z1_2 m1 h
    try dsimp only at h
    refine rsn 6 (t := (104, [(4, .int 0), (3, .int 0), (2, .int 0), (0, .ref 18), (1, .ref x1)], [])) rfl ?_
    have ex104 : ∀ (z2_2 : Int32) (z2_3 : Int32) (z2_4 : Int32) (m2 : Mm), (ck (ix ((((mI m2 18 11)) + 1)) 8) (some (vX m2 26 (((((mI m2 18 11)) + 1)).toNatClampNeg) z2_3))) = some mf → RN xs L al (Ev xs L al d) 45 171 [(0, .ref 18), (3, .int z2_3)] [] (m2, S) none (mf, S) := by
      intro z2_2 z2_3 z2_4 m2 h
      try dsimp only at h
      refine rsn 1 (t := (172, [(0, .ref 18), (3, .int z2_3)], [.ref 18])) rfl ?_
      refine rgR rfl rfl rfl (hSh.1.k 18 rfl _) (hSh.1.r 19 rfl _) ?_
      refine rsn 1 (t := (176, [(0, .ref 18), (3, .int z2_3)], [.ref 18, .ref 26])) rfl ?_
      refine pgI rfl rfl rfl (hSh.1.k 18 rfl _) ?_
      show RN xs L al (Ev xs L al d) 45 179 [(0, .ref 18), (3, .int z2_3)] [.int ((mI m2 18 11)), .ref 26] (m2, S) none (mf, S)
      refine rsn 3 (t := (182, [(0, .ref 18), (3, .int z2_3)], [.int z2_3, .int ((((mI m2 18 11)) + 1)), .ref 26])) rfl ?_
      obtain ⟨c3, h⟩ := ck_some h
      refine psI rfl (hSh.1.k 26 rfl _) (hSh.1.l 20 rfl _) c3 ?_
      cases h
      exact rret rfl ⟨rfl, rfl, rfl, rfl, rfl⟩
    have lp104 : ∀ (n : Nat) (y4_2 : Int32) (y4_3 : Int32) (y4_4 : Int32) (m4 : Mm), (f_Ranks_layOut_L104 N S x1 (fun (z2_2 : Int32) (z2_3 : Int32) (z2_4 : Int32) (m2 : Mm) => ck (ix ((((mI m2 18 11)) + 1)) 8) (some (vX m2 26 (((((mI m2 18 11)) + 1)).toNatClampNeg) z2_3))) n y4_2 y4_3 y4_4 m4) = some mf → RN xs L al (Ev xs L al d) 45 104 [(0, .ref 18), (1, .ref x1), (2, .int y4_2), (3, .int y4_3), (4, .int y4_4)] [] (m4, S) none (mf, S) := by
      intro n
      induction n with
      | zero => intro y4_2 y4_3 y4_4 m4 h; exact absurd h (by simp [f_Ranks_layOut_L104])
      | succ n104 ih104 =>
        intro y4_2 y4_3 y4_4 m4 h
        try dsimp only at h
        rw [f_Ranks_layOut_L104] at h
        try dsimp only at h
        exact rsub [(0, .ref 18), (1, .ref x1), (2, .int y4_2), (3, .int y4_3), (4, .int y4_4)] ⟨rfl, ⟨rfl, ⟨rfl, ⟨rfl, ⟨rfl, trivial⟩⟩⟩⟩⟩ ⟨rfl, ⟨rfl, ⟨rfl, ⟨rfl, ⟨rfl, trivial⟩⟩⟩⟩⟩ (ih104 y4_2 y4_3 y4_4 m4 h)
    exact rsub [(0, .ref 18), (1, .ref x1), (2, .int 0), (3, .int 0), (4, .int 0)] ⟨rfl, ⟨rfl, ⟨rfl, ⟨rfl, ⟨rfl, trivial⟩⟩⟩⟩⟩ ⟨rfl, ⟨rfl, ⟨rfl, ⟨rfl, ⟨rfl, trivial⟩⟩⟩⟩⟩ (lp104 N 0 0 0 m1 h)
  have lp20 : ∀ (n : Nat) (y5_2 : Int32) (m5 : Mm), (f_Ranks_layOut_L20 N S x1 (fun (z1_2 : Int32) (m1 : Mm) => f_Ranks_layOut_L104 N S x1 (fun (z2_2 : Int32) (z2_3 : Int32) (z2_4 : Int32) (m2 : Mm) => ck (ix ((((mI m2 18 11)) + 1)) 8) (some (vX m2 26 (((((mI m2 18 11)) + 1)).toNatClampNeg) z2_3))) N 0 0 0 m1) n y5_2 m5) = some mf → RN xs L al (Ev xs L al d) 45 20 [(0, .ref 18), (1, .ref x1), (2, .int y5_2)] [] (m5, S) none (mf, S) := by
    intro n
    induction n with
    | zero => intro y5_2 m5 h; exact absurd h (by simp [f_Ranks_layOut_L20])
    | succ n20 ih20 =>
      intro y5_2 m5 h
      try dsimp only at h
      rw [f_Ranks_layOut_L20] at h
      try dsimp only at h
      exact rsub [(0, .ref 18), (1, .ref x1), (2, .int y5_2)] ⟨rfl, ⟨rfl, ⟨rfl, trivial⟩⟩⟩ ⟨rfl, ⟨rfl, ⟨rfl, trivial⟩⟩⟩ (ih20 y5_2 m5 h)
  exact rsub [(0, .ref 18), (1, .ref x1), (2, .int 0)] ⟨rfl, ⟨rfl, ⟨rfl, trivial⟩⟩⟩ ⟨rfl, ⟨rfl, ⟨rfl, trivial⟩⟩⟩ (lp20 N 0 (vI (vI m 18 11 ((if 6 < ((mI m x1 1)) then 6 else ((mI m x1 1))))) 18 10 1) h)
def f_Table_startAnew (N : Nat) (S : St) (x0 : Nat) (m : Mm) : Option (Mm) := some (vI m x0 1 0)
set_option maxRecDepth 20000 in
set_option maxHeartbeats 4000000 in
theorem e_Table_startAnew {xs : Nat → Int32} {L : Nat} {al : Bool} (N : Nat) {d : Nat} (hd : 1 ≤ d) {S : St} (hSh : ShC S) {x0 : Nat} (hx0 : x0 ∈ tKl) {m : Mm} {mf : Mm} (h : f_Table_startAnew N S x0 m = some mf) : Ev xs L al d 51 [.ref x0] (m, S) none (mf, S) := by
  obtain ⟨d, rfl⟩ : ∃ e, d = e + 1 := ⟨d - 1, by omega⟩
  refine ev_of (by decide) (Nat.le_of_ble_eq_true rfl) ?_
  rw [f_Table_startAnew] at h
  show RN xs L al (Ev xs L al d) 51 0 [(0, .ref x0)] [] (m, S) none (mf, S)
  refine rsn 2 (t := (2, [(0, .ref x0)], [.int 0, .ref x0])) rfl ?_
  refine ppZ rfl rfl rfl rfl (hSh.kT hx0 _) (Or.inl rfl) ?_
  cases h
  exact rret rfl ⟨rfl, rfl, rfl, rfl, rfl⟩
def f_Book_startAnew_L13 (N : Nat) (S : St) (k13 : Int32 → Mm → Option (Mm)) : Nat → Int32 → Mm → Option (Mm)
  | 0, _, _ => none
  | n13 + 1, x1, m => f_Book_startAnew_L13 N S k13 n13 x1 m
def f_Book_startAnew_L42 (N : Nat) (S : St) (k42 : Int32 → Mm → Option (Mm)) : Nat → Int32 → Mm → Option (Mm)
  | 0, _, _ => none
  | n42 + 1, x1, m => f_Book_startAnew_L42 N S k42 n42 x1 m
def f_Book_startAnew (N : Nat) (S : St) (m : Mm) : Option (Mm) := b3 (f_Ranks_layOut N S 10 m) fun m1 => f_Book_startAnew_L13 N S (fun (z2_1 : Int32) (m2 : Mm) => f_Book_startAnew_L42 N S (fun (z3_1 : Int32) (m3 : Mm) => some m3) N 0 m2) N 0 m1
set_option maxRecDepth 20000 in
set_option maxHeartbeats 4000000 in
theorem e_Book_startAnew {xs : Nat → Int32} {L : Nat} {al : Bool} (N : Nat) {d : Nat} (hd : 5 ≤ d) {S : St} (hSh : ShC S) {m : Mm} {mf : Mm} (h : f_Book_startAnew N S m = some mf) : Ev xs L al d 44 [.ref 17] (m, S) none (mf, S) := by
  obtain ⟨d, rfl⟩ : ∃ e, d = e + 1 := ⟨d - 1, by omega⟩
  refine ev_of (by decide) (Nat.le_of_ble_eq_true rfl) ?_
  rw [f_Book_startAnew] at h
  show RN xs L al (Ev xs L al d) 44 0 [(0, .ref 17)] [] (m, S) none (mf, S)
  refine rsn 1 (t := (1, [(0, .ref 17)], [.ref 17])) rfl ?_
  refine rgR rfl rfl rfl (hSh.1.k 17 rfl _) (hSh.1.r 96 rfl _) ?_
  refine rsn 1 (t := (5, [(0, .ref 17)], [.ref 17, .ref 18])) rfl ?_
  refine rgR rfl rfl rfl (hSh.1.k 17 rfl _) (hSh.1.r 95 rfl _) ?_
  obtain ⟨m1, g1, h⟩ := b3_some h
  refine rcV 45 18 [.ref 10] rfl rfl rfl (hSh.1.k 18 rfl _) (Nat.le_of_ble_eq_true rfl) rfl (e_Ranks_layOut N (by omega) hSh (by decide) g1) ?_
  show RN xs L al (Ev xs L al d) 44 11 [(0, .ref 17)] [] (m1, S) none (mf, S)
  refine rsn 2 (t := (13, [(1, .int 0), (0, .ref 17)], [])) rfl ?_
  have ex13 : ∀ (z2_1 : Int32) (m2 : Mm), (f_Book_startAnew_L42 N S (fun (z3_1 : Int32) (m3 : Mm) => some m3) N 0 m2) = some mf → RN xs L al (Ev xs L al d) 44 40 [(0, .ref 17)] [] (m2, S) none (mf, S) := by
    intro z2_1 m2 h
    try dsimp only at h
    refine rsn 2 (t := (42, [(1, .int 0), (0, .ref 17)], [])) rfl ?_
    have ex42 : ∀ (z3_1 : Int32) (m3 : Mm), (some m3) = some mf → RN xs L al (Ev xs L al d) 44 69 [] [] (m3, S) none (mf, S) := by
      intro z3_1 m3 h
      try dsimp only at h
      cases h
      exact rret rfl ⟨rfl, rfl, rfl, rfl, rfl⟩
    have lp42 : ∀ (n : Nat) (y4_1 : Int32) (m4 : Mm), (f_Book_startAnew_L42 N S (fun (z3_1 : Int32) (m3 : Mm) => some m3) n y4_1 m4) = some mf → RN xs L al (Ev xs L al d) 44 42 [(0, .ref 17), (1, .int y4_1)] [] (m4, S) none (mf, S) := by
      intro n
      induction n with
      | zero => intro y4_1 m4 h; exact absurd h (by simp [f_Book_startAnew_L42])
      | succ n42 ih42 =>
        intro y4_1 m4 h
        try dsimp only at h
        rw [f_Book_startAnew_L42] at h
        try dsimp only at h
        exact rsub [(0, .ref 17), (1, .int y4_1)] ⟨rfl, ⟨rfl, trivial⟩⟩ ⟨rfl, ⟨rfl, trivial⟩⟩ (ih42 y4_1 m4 h)
    exact rsub [(0, .ref 17), (1, .int 0)] ⟨rfl, ⟨rfl, trivial⟩⟩ ⟨rfl, ⟨rfl, trivial⟩⟩ (lp42 N 0 m2 h)
  have lp13 : ∀ (n : Nat) (y5_1 : Int32) (m5 : Mm), (f_Book_startAnew_L13 N S (fun (z2_1 : Int32) (m2 : Mm) => f_Book_startAnew_L42 N S (fun (z3_1 : Int32) (m3 : Mm) => some m3) N 0 m2) n y5_1 m5) = some mf → RN xs L al (Ev xs L al d) 44 13 [(0, .ref 17), (1, .int y5_1)] [] (m5, S) none (mf, S) := by
    intro n
    induction n with
    | zero => intro y5_1 m5 h; exact absurd h (by simp [f_Book_startAnew_L13])
    | succ n13 ih13 =>
      intro y5_1 m5 h
      try dsimp only at h
      rw [f_Book_startAnew_L13] at h
      try dsimp only at h
      exact rsub [(0, .ref 17), (1, .int y5_1)] ⟨rfl, ⟨rfl, trivial⟩⟩ ⟨rfl, ⟨rfl, trivial⟩⟩ (ih13 y5_1 m5 h)
  exact rsub [(0, .ref 17), (1, .int 0)] ⟨rfl, ⟨rfl, trivial⟩⟩ ⟨rfl, ⟨rfl, trivial⟩⟩ (lp13 N 0 m1 h)
def f_SC_matter_L65 (N : Nat) (S : St) (k65 : Int32 → Mm → Option (Int32 × Mm)) : Nat → Int32 → Mm → Option (Int32 × Mm)
  | 0, _, _ => none
  | n65 + 1, x1, m => f_SC_matter_L65 N S k65 n65 x1 m
def f_SC_matter (N : Nat) (S : St) (m : Mm) : Option (Int32 × Mm) := b2 (f_Reader_read N S ((mI m 0 1)) 3 m) fun r1 m1 => (if r1 = ((-1)) then b2 (f_Reader_read N S ((mI m1 0 1)) 10 m1) fun r3 m3 => b1 (f_Will_firstState N S 10 (vI (vI m3 0 1 0) 0 6 1)) fun r4 => f_SC_matter_L65 N S (fun (z5_1 : Int32) (m5 : Mm) => b3 (f_Book_startAnew N S m5) fun m6 => some ((mI m6 10 0), m6)) N 0 (vI (vJ (vI (vI m3 0 1 0) 0 6 1) 0 7 r4) 0 8 ((-1))) else some ((-1), m1))
set_option maxRecDepth 20000 in
set_option maxHeartbeats 4000000 in
theorem e_SC_matter {xs : Nat → Int32} {L : Nat} {al : Bool} (N : Nat) {d : Nat} (hd : 8 ≤ d) {S : St} (hSh : ShC S) {m : Mm} {r0 : Int32} {mf : Mm} (h : f_SC_matter N S m = some (r0, mf)) : Ev xs L al d 42 [.ref 0] (m, S) (some (.int r0)) (mf, S) := by
  obtain ⟨d, rfl⟩ : ∃ e, d = e + 1 := ⟨d - 1, by omega⟩
  refine ev_of (by decide) (Nat.le_of_ble_eq_true rfl) ?_
  rw [f_SC_matter] at h
  show RN xs L al (Ev xs L al d) 42 0 [(0, .ref 0)] [] (m, S) (some (.int r0)) (mf, S)
  refine rsn 1 (t := (1, [(0, .ref 0)], [.ref 0])) rfl ?_
  refine rgR rfl rfl rfl (hSh.1.k 0 rfl _) (hSh.1.r 86 rfl _) ?_
  refine rsn 1 (t := (5, [(0, .ref 0)], [.ref 0, .ref 2])) rfl ?_
  refine pgI rfl rfl rfl (hSh.1.k 0 rfl _) ?_
  show RN xs L al (Ev xs L al d) 42 8 [(0, .ref 0)] [.int ((mI m 0 1)), .ref 2] (m, S) (some (.int r0)) (mf, S)
  refine rsn 1 (t := (9, [(0, .ref 0)], [.ref 0, .int ((mI m 0 1)), .ref 2])) rfl ?_
  refine rgR rfl rfl rfl (hSh.1.k 0 rfl _) (hSh.1.r 87 rfl _) ?_
  obtain ⟨r1, m1, g1, h⟩ := b2_some h
  refine rcV 17 2 [.int ((mI m 0 1)), .ref 3] rfl rfl rfl (hSh.1.k 2 rfl _) (Nat.le_of_ble_eq_true rfl) rfl (e_Reader_read N (by omega) hSh (by decide) g1) ?_
  show RN xs L al (Ev xs L al d) 42 15 [(0, .ref 0)] [.int r1] (m1, S) (some (.int r0)) (mf, S)
  refine rsn 1 (t := (16, [(0, .ref 0)], [.int ((-1)), .int r1])) rfl ?_
  by_cases c2 : r1 = ((-1))
  · rw [if_pos c2] at h
    refine rjt (a := (21, [(0, .ref 0)], [])) (b := (19, [(0, .ref 0)], [])) rfl rfl c2 ?_
    refine rsn 1 (t := (22, [(0, .ref 0)], [.ref 0])) rfl ?_
    refine rgR rfl rfl rfl (hSh.1.k 0 rfl _) (hSh.1.r 86 rfl _) ?_
    refine rsn 1 (t := (26, [(0, .ref 0)], [.ref 0, .ref 2])) rfl ?_
    refine pgI rfl rfl rfl (hSh.1.k 0 rfl _) ?_
    show RN xs L al (Ev xs L al d) 42 29 [(0, .ref 0)] [.int ((mI m1 0 1)), .ref 2] (m1, S) (some (.int r0)) (mf, S)
    refine rsn 1 (t := (30, [(0, .ref 0)], [.ref 0, .int ((mI m1 0 1)), .ref 2])) rfl ?_
    refine rgR rfl rfl rfl (hSh.1.k 0 rfl _) (hSh.1.r 88 rfl _) ?_
    obtain ⟨r3, m3, g3, h⟩ := b2_some h
    refine rcV 17 2 [.int ((mI m1 0 1)), .ref 10] rfl rfl rfl (hSh.1.k 2 rfl _) (Nat.le_of_ble_eq_true rfl) rfl (e_Reader_read N (by omega) hSh (by decide) g3) ?_
    show RN xs L al (Ev xs L al d) 42 36 [(0, .ref 0)] [.int r3] (m3, S) (some (.int r0)) (mf, S)
    refine rsn 3 (t := (39, [(0, .ref 0)], [.int 0, .ref 0])) rfl ?_
    refine ppI rfl rfl rfl rfl (hSh.1.k 0 rfl _) ?_
    refine rsn 2 (t := (44, [(0, .ref 0)], [.int 1, .ref 0])) rfl ?_
    refine ppZ rfl rfl rfl rfl (hSh.1.k 0 rfl _) (Or.inr rfl) ?_
    refine rsn 2 (t := (49, [(0, .ref 0)], [.ref 0, .ref 0])) rfl ?_
    refine rgR rfl rfl rfl (hSh.1.k 0 rfl _) (hSh.1.r 88 rfl _) ?_
    obtain ⟨r4, g4, h⟩ := b1_some h
    refine rcV 43 10 [] rfl rfl rfl (hSh.1.k 10 rfl _) (Nat.le_of_ble_eq_true rfl) rfl (e_Will_firstState N (by omega) hSh (by decide) g4) ?_
    show RN xs L al (Ev xs L al d) 42 55 [(0, .ref 0)] [.long r4, .ref 0] ((vI (vI m3 0 1 0) 0 6 1), S) (some (.int r0)) (mf, S)
    refine ppJ rfl rfl rfl rfl (hSh.1.k 0 rfl _) ?_
    refine rsn 2 (t := (60, [(0, .ref 0)], [.int ((-1)), .ref 0])) rfl ?_
    refine ppI rfl rfl rfl rfl (hSh.1.k 0 rfl _) ?_
    refine rsn 2 (t := (65, [(1, .int 0), (0, .ref 0)], [])) rfl ?_
    have ex65 : ∀ (z5_1 : Int32) (m5 : Mm), (b3 (f_Book_startAnew N S m5) fun m6 => some ((mI m6 10 0), m6)) = some (r0, mf) → RN xs L al (Ev xs L al d) 42 83 [(0, .ref 0)] [] (m5, S) (some (.int r0)) (mf, S) := by
      intro z5_1 m5 h
      try dsimp only at h
      refine rsn 1 (t := (84, [(0, .ref 0)], [.ref 0])) rfl ?_
      refine rgR rfl rfl rfl (hSh.1.k 0 rfl _) (hSh.1.r 89 rfl _) ?_
      obtain ⟨m6, g6, h⟩ := b3_some h
      refine rcV 44 17 [] rfl rfl rfl (hSh.1.k 17 rfl _) (Nat.le_of_ble_eq_true rfl) rfl (e_Book_startAnew N (by omega) hSh g6) ?_
      show RN xs L al (Ev xs L al d) 42 90 [(0, .ref 0)] [] (m6, S) (some (.int r0)) (mf, S)
      refine rsn 1 (t := (91, [(0, .ref 0)], [.ref 0])) rfl ?_
      refine rgR rfl rfl rfl (hSh.1.k 0 rfl _) (hSh.1.r 88 rfl _) ?_
      refine pgI rfl rfl rfl (hSh.1.k 10 rfl _) ?_
      show RN xs L al (Ev xs L al d) 42 97 [(0, .ref 0)] [.int ((mI m6 10 0))] (m6, S) (some (.int r0)) (mf, S)
      cases h
      exact rret rfl ⟨rfl, rfl, _, _, rfl, rfl, rfl, rfl⟩
    have lp65 : ∀ (n : Nat) (y7_1 : Int32) (m7 : Mm), (f_SC_matter_L65 N S (fun (z5_1 : Int32) (m5 : Mm) => b3 (f_Book_startAnew N S m5) fun m6 => some ((mI m6 10 0), m6)) n y7_1 m7) = some (r0, mf) → RN xs L al (Ev xs L al d) 42 65 [(0, .ref 0), (1, .int y7_1)] [] (m7, S) (some (.int r0)) (mf, S) := by
      intro n
      induction n with
      | zero => intro y7_1 m7 h; exact absurd h (by simp [f_SC_matter_L65])
      | succ n65 ih65 =>
        intro y7_1 m7 h
        try dsimp only at h
        rw [f_SC_matter_L65] at h
        try dsimp only at h
        exact rsub [(0, .ref 0), (1, .int y7_1)] ⟨rfl, ⟨rfl, trivial⟩⟩ ⟨rfl, ⟨rfl, trivial⟩⟩ (ih65 y7_1 m7 h)
    exact rsub [(0, .ref 0), (1, .int 0)] ⟨rfl, ⟨rfl, trivial⟩⟩ ⟨rfl, ⟨rfl, trivial⟩⟩ (lp65 N 0 (vI (vJ (vI (vI m3 0 1 0) 0 6 1) 0 7 r4) 0 8 ((-1))) h)
  · rw [if_neg c2] at h
    refine rjf (a := (21, [(0, .ref 0)], [])) (b := (19, [(0, .ref 0)], [])) rfl rfl c2 ?_
    refine rsn 1 (t := (20, [(0, .ref 0)], [.int ((-1))])) rfl ?_
    cases h
    exact rret rfl ⟨rfl, rfl, _, _, rfl, rfl, rfl, rfl⟩
def f_Will_isHeir (N : Nat) (S : St) (x0 : Nat) (x1 : Int32) (m : Mm) : Option (Int32) := (if x1 < 0 then some 0 else (if ((mI m x0 0)) ≤ x1 then some 0 else some 1))
set_option maxRecDepth 20000 in
set_option maxHeartbeats 4000000 in
theorem e_Will_isHeir {xs : Nat → Int32} {L : Nat} {al : Bool} (N : Nat) {d : Nat} (hd : 1 ≤ d) {S : St} (hSh : ShC S) {x0 : Nat} {x1 : Int32} (hx0 : x0 ∈ wKl) {m : Mm} {r0 : Int32} (h : f_Will_isHeir N S x0 x1 m = some r0) : Ev xs L al d 53 [.ref x0, .int x1] (m, S) (some (.int r0)) (m, S) := by
  obtain ⟨d, rfl⟩ : ∃ e, d = e + 1 := ⟨d - 1, by omega⟩
  refine ev_of (by decide) (Nat.le_of_ble_eq_true rfl) ?_
  rw [f_Will_isHeir] at h
  show RN xs L al (Ev xs L al d) 53 0 [(0, .ref x0), (1, .int x1)] [] (m, S) (some (.int r0)) (m, S)
  refine rsn 1 (t := (1, [(0, .ref x0), (1, .int x1)], [.int x1])) rfl ?_
  by_cases c1 : x1 < 0
  · rw [if_pos c1] at h
    refine rjt (a := (16, [(0, .ref x0), (1, .int x1)], [])) (b := (4, [(0, .ref x0), (1, .int x1)], [])) rfl rfl c1 ?_
    refine rsn 1 (t := (17, [(0, .ref x0), (1, .int x1)], [.int 0])) rfl ?_
    cases h
    exact rret rfl ⟨rfl, rfl, _, _, rfl, rfl, rfl, rfl⟩
  · rw [if_neg c1] at h
    refine rjf (a := (16, [(0, .ref x0), (1, .int x1)], [])) (b := (4, [(0, .ref x0), (1, .int x1)], [])) rfl rfl c1 ?_
    refine rsn 2 (t := (6, [(0, .ref x0), (1, .int x1)], [.ref x0, .int x1])) rfl ?_
    refine pgI rfl rfl rfl (hSh.kW hx0 _) ?_
    show RN xs L al (Ev xs L al d) 53 9 [(0, .ref x0), (1, .int x1)] [.int ((mI m x0 0)), .int x1] (m, S) (some (.int r0)) (m, S)
    by_cases c2 : ((mI m x0 0)) ≤ x1
    · rw [if_pos c2] at h
      refine rjt (a := (16, [(0, .ref x0), (1, .int x1)], [])) (b := (12, [(0, .ref x0), (1, .int x1)], [])) rfl rfl c2 ?_
      refine rsn 1 (t := (17, [(0, .ref x0), (1, .int x1)], [.int 0])) rfl ?_
      cases h
      exact rret rfl ⟨rfl, rfl, _, _, rfl, rfl, rfl, rfl⟩
    · rw [if_neg c2] at h
      refine rjf (a := (16, [(0, .ref x0), (1, .int x1)], [])) (b := (12, [(0, .ref x0), (1, .int x1)], [])) rfl rfl c2 ?_
      refine rsn 2 (t := (17, [(0, .ref x0), (1, .int x1)], [.int 1])) rfl ?_
      cases h
      exact rret rfl ⟨rfl, rfl, _, _, rfl, rfl, rfl, rfl⟩
def f_Will_worth (N : Nat) (S : St) (x0 : Nat) (x1 : Int32) (x2 : Int32) (m : Mm) : Option (Int32) := (if x1 < 0 then some 0 else (if ((mI m x0 0)) ≤ x1 then some 0 else (if x2 < 0 then some 0 else (if x2 < 3 then ck (ix ((((x1 * 3)) + x2)) 9) (some ((mX m ((x0 + 2)) (((((x1 * 3)) + x2)).toNatClampNeg)))) else some 0))))
set_option maxRecDepth 20000 in
set_option maxHeartbeats 4000000 in
theorem e_Will_worth {xs : Nat → Int32} {L : Nat} {al : Bool} (N : Nat) {d : Nat} (hd : 1 ≤ d) {S : St} (hSh : ShC S) {x0 : Nat} {x1 : Int32} {x2 : Int32} (hx0 : x0 ∈ wKl) {m : Mm} {r0 : Int32} (h : f_Will_worth N S x0 x1 x2 m = some r0) : Ev xs L al d 56 [.ref x0, .int x1, .int x2] (m, S) (some (.int r0)) (m, S) := by
  obtain ⟨d, rfl⟩ : ∃ e, d = e + 1 := ⟨d - 1, by omega⟩
  refine ev_of (by decide) (Nat.le_of_ble_eq_true rfl) ?_
  rw [f_Will_worth] at h
  show RN xs L al (Ev xs L al d) 56 0 [(0, .ref x0), (1, .int x1), (2, .int x2)] [] (m, S) (some (.int r0)) (m, S)
  refine rsn 1 (t := (1, [(0, .ref x0), (1, .int x1), (2, .int x2)], [.int x1])) rfl ?_
  by_cases c1 : x1 < 0
  · rw [if_pos c1] at h
    refine rjt (a := (21, [(0, .ref x0), (1, .int x1), (2, .int x2)], [])) (b := (4, [(0, .ref x0), (1, .int x1), (2, .int x2)], [])) rfl rfl c1 ?_
    refine rsn 1 (t := (22, [(0, .ref x0), (1, .int x1), (2, .int x2)], [.int 0])) rfl ?_
    cases h
    exact rret rfl ⟨rfl, rfl, _, _, rfl, rfl, rfl, rfl⟩
  · rw [if_neg c1] at h
    refine rjf (a := (21, [(0, .ref x0), (1, .int x1), (2, .int x2)], [])) (b := (4, [(0, .ref x0), (1, .int x1), (2, .int x2)], [])) rfl rfl c1 ?_
    refine rsn 2 (t := (6, [(0, .ref x0), (1, .int x1), (2, .int x2)], [.ref x0, .int x1])) rfl ?_
    refine pgI rfl rfl rfl (hSh.kW hx0 _) ?_
    show RN xs L al (Ev xs L al d) 56 9 [(0, .ref x0), (1, .int x1), (2, .int x2)] [.int ((mI m x0 0)), .int x1] (m, S) (some (.int r0)) (m, S)
    by_cases c2 : ((mI m x0 0)) ≤ x1
    · rw [if_pos c2] at h
      refine rjt (a := (21, [(0, .ref x0), (1, .int x1), (2, .int x2)], [])) (b := (12, [(0, .ref x0), (1, .int x1), (2, .int x2)], [])) rfl rfl c2 ?_
      refine rsn 1 (t := (22, [(0, .ref x0), (1, .int x1), (2, .int x2)], [.int 0])) rfl ?_
      cases h
      exact rret rfl ⟨rfl, rfl, _, _, rfl, rfl, rfl, rfl⟩
    · rw [if_neg c2] at h
      refine rjf (a := (21, [(0, .ref x0), (1, .int x1), (2, .int x2)], [])) (b := (12, [(0, .ref x0), (1, .int x1), (2, .int x2)], [])) rfl rfl c2 ?_
      refine rsn 1 (t := (13, [(0, .ref x0), (1, .int x1), (2, .int x2)], [.int x2])) rfl ?_
      by_cases c3 : x2 < 0
      · rw [if_pos c3] at h
        refine rjt (a := (21, [(0, .ref x0), (1, .int x1), (2, .int x2)], [])) (b := (16, [(0, .ref x0), (1, .int x1), (2, .int x2)], [])) rfl rfl c3 ?_
        refine rsn 1 (t := (22, [(0, .ref x0), (1, .int x1), (2, .int x2)], [.int 0])) rfl ?_
        cases h
        exact rret rfl ⟨rfl, rfl, _, _, rfl, rfl, rfl, rfl⟩
      · rw [if_neg c3] at h
        refine rjf (a := (21, [(0, .ref x0), (1, .int x1), (2, .int x2)], [])) (b := (16, [(0, .ref x0), (1, .int x1), (2, .int x2)], [])) rfl rfl c3 ?_
        refine rsn 2 (t := (18, [(0, .ref x0), (1, .int x1), (2, .int x2)], [.int 3, .int x2])) rfl ?_
        by_cases c4 : x2 < 3
        · rw [if_pos c4] at h
          refine rjt (a := (23, [(0, .ref x0), (1, .int x1), (2, .int x2)], [])) (b := (21, [(0, .ref x0), (1, .int x1), (2, .int x2)], [])) rfl rfl c4 ?_
          refine rsn 1 (t := (24, [(0, .ref x0), (1, .int x1), (2, .int x2)], [.ref x0])) rfl ?_
          refine rgR rfl rfl rfl (hSh.kW hx0 _) (hSh.rWa2 hx0 _) ?_
          refine rsn 5 (t := (32, [(0, .ref x0), (1, .int x1), (2, .int x2)], [.int ((((x1 * 3)) + x2)), .ref ((x0 + 2))])) rfl ?_
          obtain ⟨c5, h⟩ := ck_some h
          refine pxI rfl (hSh.kWa2 hx0 _) (hSh.lWa2 hx0 _) c5 ?_
          show RN xs L al (Ev xs L al d) 56 33 [(0, .ref x0), (1, .int x1), (2, .int x2)] [.int ((mX m ((x0 + 2)) (((((x1 * 3)) + x2)).toNatClampNeg)))] (m, S) (some (.int r0)) (m, S)
          cases h
          exact rret rfl ⟨rfl, rfl, _, _, rfl, rfl, rfl, rfl⟩
        · rw [if_neg c4] at h
          refine rjf (a := (23, [(0, .ref x0), (1, .int x1), (2, .int x2)], [])) (b := (21, [(0, .ref x0), (1, .int x1), (2, .int x2)], [])) rfl rfl c4 ?_
          refine rsn 1 (t := (22, [(0, .ref x0), (1, .int x1), (2, .int x2)], [.int 0])) rfl ?_
          cases h
          exact rret rfl ⟨rfl, rfl, _, _, rfl, rfl, rfl, rfl⟩
def f_Will_valueOf_L33 (N : Nat) (S : St) (x0 : Nat) (x5 : Int32) (m : Mm) (k33 : Int64 → Int32 → Int32 → Option (Int32)) : Nat → Int64 → Int32 → Int32 → Option (Int32)
  | 0, _, _, _ => none
  | n33 + 1, x6, x8, x9 => f_Will_valueOf_L33 N S x0 x5 m k33 n33 x6 x8 x9
def f_Will_valueOf (N : Nat) (S : St) (x0 : Nat) (x1 : Int32) (x2 : Int64) (x4 : Int32) (m : Mm) : Option (Int32) := (if x1 < 0 then some 0 else (if x1 < ((mI m x0 0)) then f_Will_valueOf_L33 N S x0 ((x1 * 3)) m (fun (z3_6 : Int64) (z3_8 : Int32) (z3_9 : Int32) => some z3_8) N ((lus x2 ((3 * x4)))) 0 0 else some 0))
set_option maxRecDepth 20000 in
set_option maxHeartbeats 4000000 in
theorem e_Will_valueOf {xs : Nat → Int32} {L : Nat} {al : Bool} (N : Nat) {d : Nat} (hd : 1 ≤ d) {S : St} (hSh : ShC S) {x0 : Nat} {x1 : Int32} {x2 : Int64} {x4 : Int32} (hx0 : x0 ∈ wKl) {m : Mm} {r0 : Int32} (h : f_Will_valueOf N S x0 x1 x2 x4 m = some r0) : Ev xs L al d 58 [.ref x0, .int x1, .long x2, .int x4] (m, S) (some (.int r0)) (m, S) := by
  obtain ⟨d, rfl⟩ : ∃ e, d = e + 1 := ⟨d - 1, by omega⟩
  refine ev_of (by decide) (Nat.le_of_ble_eq_true rfl) ?_
  rw [f_Will_valueOf] at h
  show RN xs L al (Ev xs L al d) 58 0 [(0, .ref x0), (1, .int x1), (2, .long x2), (4, .int x4)] [] (m, S) (some (.int r0)) (m, S)
  refine rsn 1 (t := (1, [(0, .ref x0), (1, .int x1), (2, .long x2), (4, .int x4)], [.int x1])) rfl ?_
  by_cases c1 : x1 < 0
  · rw [if_pos c1] at h
    refine rjt (a := (12, [(0, .ref x0), (1, .int x1), (2, .long x2), (4, .int x4)], [])) (b := (4, [(0, .ref x0), (1, .int x1), (2, .long x2), (4, .int x4)], [])) rfl rfl c1 ?_
    refine rsn 1 (t := (13, [(0, .ref x0), (1, .int x1), (2, .long x2), (4, .int x4)], [.int 0])) rfl ?_
    cases h
    exact rret rfl ⟨rfl, rfl, _, _, rfl, rfl, rfl, rfl⟩
  · rw [if_neg c1] at h
    refine rjf (a := (12, [(0, .ref x0), (1, .int x1), (2, .long x2), (4, .int x4)], [])) (b := (4, [(0, .ref x0), (1, .int x1), (2, .long x2), (4, .int x4)], [])) rfl rfl c1 ?_
    refine rsn 2 (t := (6, [(0, .ref x0), (1, .int x1), (2, .long x2), (4, .int x4)], [.ref x0, .int x1])) rfl ?_
    refine pgI rfl rfl rfl (hSh.kW hx0 _) ?_
    show RN xs L al (Ev xs L al d) 58 9 [(0, .ref x0), (1, .int x1), (2, .long x2), (4, .int x4)] [.int ((mI m x0 0)), .int x1] (m, S) (some (.int r0)) (m, S)
    by_cases c2 : x1 < ((mI m x0 0))
    · rw [if_pos c2] at h
      refine rjt (a := (14, [(0, .ref x0), (1, .int x1), (2, .long x2), (4, .int x4)], [])) (b := (12, [(0, .ref x0), (1, .int x1), (2, .long x2), (4, .int x4)], [])) rfl rfl c2 ?_
      refine rsn 14 (t := (33, [(9, .int 0), (8, .int 0), (6, .long ((lus x2 ((3 * x4))))), (5, .int ((x1 * 3))), (0, .ref x0), (1, .int x1), (2, .long x2), (4, .int x4)], [])) rfl ?_
      have ex33 : ∀ (z3_6 : Int64) (z3_8 : Int32) (z3_9 : Int32), (some z3_8) = some r0 → RN xs L al (Ev xs L al d) 58 74 [(8, .int z3_8)] [] (m, S) (some (.int r0)) (m, S) := by
        intro z3_6 z3_8 z3_9 h
        try dsimp only at h
        refine rsn 1 (t := (76, [(8, .int z3_8)], [.int z3_8])) rfl ?_
        cases h
        exact rret rfl ⟨rfl, rfl, _, _, rfl, rfl, rfl, rfl⟩
      have lp33 : ∀ (n : Nat) (y4_6 : Int64) (y4_8 : Int32) (y4_9 : Int32), (f_Will_valueOf_L33 N S x0 ((x1 * 3)) m (fun (z3_6 : Int64) (z3_8 : Int32) (z3_9 : Int32) => some z3_8) n y4_6 y4_8 y4_9) = some r0 → RN xs L al (Ev xs L al d) 58 33 [(0, .ref x0), (5, .int ((x1 * 3))), (6, .long y4_6), (8, .int y4_8), (9, .int y4_9)] [] (m, S) (some (.int r0)) (m, S) := by
        intro n
        induction n with
        | zero => intro y4_6 y4_8 y4_9 h; exact absurd h (by simp [f_Will_valueOf_L33])
        | succ n33 ih33 =>
          intro y4_6 y4_8 y4_9 h
          try dsimp only at h
          rw [f_Will_valueOf_L33] at h
          try dsimp only at h
          exact rsub [(0, .ref x0), (5, .int ((x1 * 3))), (6, .long y4_6), (8, .int y4_8), (9, .int y4_9)] ⟨rfl, ⟨rfl, ⟨rfl, ⟨rfl, ⟨rfl, trivial⟩⟩⟩⟩⟩ ⟨rfl, ⟨rfl, ⟨rfl, ⟨rfl, ⟨rfl, trivial⟩⟩⟩⟩⟩ (ih33 y4_6 y4_8 y4_9 h)
      exact rsub [(0, .ref x0), (5, .int ((x1 * 3))), (6, .long ((lus x2 ((3 * x4))))), (8, .int 0), (9, .int 0)] ⟨rfl, ⟨rfl, ⟨rfl, ⟨rfl, ⟨rfl, trivial⟩⟩⟩⟩⟩ ⟨rfl, ⟨rfl, ⟨rfl, ⟨rfl, ⟨rfl, trivial⟩⟩⟩⟩⟩ (lp33 N ((lus x2 ((3 * x4)))) 0 0 h)
    · rw [if_neg c2] at h
      refine rjf (a := (14, [(0, .ref x0), (1, .int x1), (2, .long x2), (4, .int x4)], [])) (b := (12, [(0, .ref x0), (1, .int x1), (2, .long x2), (4, .int x4)], [])) rfl rfl c2 ?_
      refine rsn 1 (t := (13, [(0, .ref x0), (1, .int x1), (2, .long x2), (4, .int x4)], [.int 0])) rfl ?_
      cases h
      exact rret rfl ⟨rfl, rfl, _, _, rfl, rfl, rfl, rfl⟩
def f_SC_heir (N : Nat) (S : St) (x1 : Int32) (x2 : Int32) (m : Mm) : Option (Int32) := (if ((mI m 0 6)) = 0 then some ((-1)) else b1 (f_Will_isHeir N S 10 x1 m) fun r2 => (if r2 = 0 then some ((-1)) else (if x2 = 0 then b1 (f_State_isThere N ((mJ m 0 7)) x1) fun r13 => (if r13 = 0 then some 0 else some 1) else (jn (fun (_ : Unit) => (jn (fun (_ : Unit) => (if x2 = 7 then b1 (f_Will_valueOf N S 10 x1 ((mJ m 0 7)) x1 m) fun r6 => some r6 else some ((-1)))) (fun j86 => if x2 < 4 then j86 () else (if 6 < x2 then j86 () else b1 (f_State_amount N ((mJ m 0 7)) ((x2 - 4)) x1) fun r9 => some r9)))) (fun j63 => if x2 < 1 then j63 () else (if 3 < x2 then j63 () else b1 (f_Will_worth N S 10 x1 ((x2 - 1)) m) fun r12 => some r12))))))
set_option maxRecDepth 20000 in
set_option maxHeartbeats 4000000 in
theorem e_SC_heir {xs : Nat → Int32} {L : Nat} {al : Bool} (N : Nat) {d : Nat} (hd : 3 ≤ d) {S : St} (hSh : ShC S) {x1 : Int32} {x2 : Int32} {m : Mm} {r0 : Int32} (h : f_SC_heir N S x1 x2 m = some r0) : Ev xs L al d 52 [.ref 0, .int x1, .int x2] (m, S) (some (.int r0)) (m, S) := by
  obtain ⟨d, rfl⟩ : ∃ e, d = e + 1 := ⟨d - 1, by omega⟩
  refine ev_of (by decide) (Nat.le_of_ble_eq_true rfl) ?_
  rw [f_SC_heir] at h
  show RN xs L al (Ev xs L al d) 52 0 [(0, .ref 0), (1, .int x1), (2, .int x2)] [] (m, S) (some (.int r0)) (m, S)
  refine rsn 1 (t := (1, [(0, .ref 0), (1, .int x1), (2, .int x2)], [.ref 0])) rfl ?_
  refine pgI rfl rfl rfl (hSh.1.k 0 rfl _) ?_
  show RN xs L al (Ev xs L al d) 52 4 [(0, .ref 0), (1, .int x1), (2, .int x2)] [.int ((mI m 0 6))] (m, S) (some (.int r0)) (m, S)
  by_cases c1 : ((mI m 0 6)) = 0
  · rw [if_pos c1] at h
    refine rjt (a := (18, [(0, .ref 0), (1, .int x1), (2, .int x2)], [])) (b := (7, [(0, .ref 0), (1, .int x1), (2, .int x2)], [])) rfl rfl c1 ?_
    refine rsn 1 (t := (19, [(0, .ref 0), (1, .int x1), (2, .int x2)], [.int ((-1))])) rfl ?_
    cases h
    exact rret rfl ⟨rfl, rfl, _, _, rfl, rfl, rfl, rfl⟩
  · rw [if_neg c1] at h
    refine rjf (a := (18, [(0, .ref 0), (1, .int x1), (2, .int x2)], [])) (b := (7, [(0, .ref 0), (1, .int x1), (2, .int x2)], [])) rfl rfl c1 ?_
    refine rsn 1 (t := (8, [(0, .ref 0), (1, .int x1), (2, .int x2)], [.ref 0])) rfl ?_
    refine rgR rfl rfl rfl (hSh.1.k 0 rfl _) (hSh.1.r 88 rfl _) ?_
    refine rsn 1 (t := (12, [(0, .ref 0), (1, .int x1), (2, .int x2)], [.int x1, .ref 10])) rfl ?_
    obtain ⟨r2, g2, h⟩ := b1_some h
    refine rcV 53 10 [.int x1] rfl rfl rfl (hSh.1.k 10 rfl _) (Nat.le_of_ble_eq_true rfl) rfl (e_Will_isHeir N (by omega) hSh (by decide) g2) ?_
    show RN xs L al (Ev xs L al d) 52 15 [(0, .ref 0), (1, .int x1), (2, .int x2)] [.int r2] (m, S) (some (.int r0)) (m, S)
    by_cases c3 : r2 = 0
    · rw [if_pos c3] at h
      refine rjf (a := (20, [(0, .ref 0), (1, .int x1), (2, .int x2)], [])) (b := (18, [(0, .ref 0), (1, .int x1), (2, .int x2)], [])) rfl rfl (fun q => q c3) ?_
      refine rsn 1 (t := (19, [(0, .ref 0), (1, .int x1), (2, .int x2)], [.int ((-1))])) rfl ?_
      cases h
      exact rret rfl ⟨rfl, rfl, _, _, rfl, rfl, rfl, rfl⟩
    · rw [if_neg c3] at h
      refine rjt (a := (20, [(0, .ref 0), (1, .int x1), (2, .int x2)], [])) (b := (18, [(0, .ref 0), (1, .int x1), (2, .int x2)], [])) rfl rfl c3 ?_
      refine rsn 1 (t := (21, [(0, .ref 0), (1, .int x1), (2, .int x2)], [.int x2])) rfl ?_
      by_cases c4 : x2 = 0
      · rw [if_pos c4] at h
        refine rjf (a := (41, [(0, .ref 0), (1, .int x1), (2, .int x2)], [])) (b := (24, [(0, .ref 0), (1, .int x1), (2, .int x2)], [])) rfl rfl (fun q => q c4) ?_
        refine rsn 1 (t := (25, [(0, .ref 0), (1, .int x1), (2, .int x2)], [.ref 0])) rfl ?_
        refine pgJ rfl rfl rfl (hSh.1.k 0 rfl _) ?_
        show RN xs L al (Ev xs L al d) 52 28 [(0, .ref 0), (1, .int x1), (2, .int x2)] [.long ((mJ m 0 7))] (m, S) (some (.int r0)) (m, S)
        refine rsn 1 (t := (29, [(0, .ref 0), (1, .int x1), (2, .int x2)], [.int x1, .long ((mJ m 0 7))])) rfl ?_
        obtain ⟨r13, g13, h⟩ := b1_some h
        refine rcS 54 [.long ((mJ m 0 7)), .int x1] rfl rfl rfl (Nat.le_of_ble_eq_true rfl) rfl (e_State_isThere N (by omega) g13) ?_
        show RN xs L al (Ev xs L al d) 52 32 [(0, .ref 0), (1, .int x1), (2, .int x2)] [.int r13] (m, S) (some (.int r0)) (m, S)
        by_cases c14 : r13 = 0
        · rw [if_pos c14] at h
          refine rjt (a := (39, [(0, .ref 0), (1, .int x1), (2, .int x2)], [])) (b := (35, [(0, .ref 0), (1, .int x1), (2, .int x2)], [])) rfl rfl c14 ?_
          refine rsn 1 (t := (40, [(0, .ref 0), (1, .int x1), (2, .int x2)], [.int 0])) rfl ?_
          cases h
          exact rret rfl ⟨rfl, rfl, _, _, rfl, rfl, rfl, rfl⟩
        · rw [if_neg c14] at h
          refine rjf (a := (39, [(0, .ref 0), (1, .int x1), (2, .int x2)], [])) (b := (35, [(0, .ref 0), (1, .int x1), (2, .int x2)], [])) rfl rfl c14 ?_
          refine rsn 2 (t := (40, [(0, .ref 0), (1, .int x1), (2, .int x2)], [.int 1])) rfl ?_
          cases h
          exact rret rfl ⟨rfl, rfl, _, _, rfl, rfl, rfl, rfl⟩
      · rw [if_neg c4] at h
        refine rjt (a := (41, [(0, .ref 0), (1, .int x1), (2, .int x2)], [])) (b := (24, [(0, .ref 0), (1, .int x1), (2, .int x2)], [])) rfl rfl c4 ?_
        refine rsn 2 (t := (43, [(0, .ref 0), (1, .int x1), (2, .int x2)], [.int 1, .int x2])) rfl ?_
        have jp63 : ∀ (_ : Unit), ((jn (fun (_ : Unit) => (if x2 = 7 then b1 (f_Will_valueOf N S 10 x1 ((mJ m 0 7)) x1 m) fun r6 => some r6 else some ((-1)))) (fun j86 => if x2 < 4 then j86 () else (if 6 < x2 then j86 () else b1 (f_State_amount N ((mJ m 0 7)) ((x2 - 4)) x1) fun r9 => some r9)))) = some r0 → RN xs L al (Ev xs L al d) 52 63 [(0, .ref 0), (1, .int x1), (2, .int x2)] [] (m, S) (some (.int r0)) (m, S) := by
          intro _ h
          try dsimp only at h
          refine rsn 2 (t := (65, [(0, .ref 0), (1, .int x1), (2, .int x2)], [.int 4, .int x2])) rfl ?_
          have jp86 : ∀ (_ : Unit), ((if x2 = 7 then b1 (f_Will_valueOf N S 10 x1 ((mJ m 0 7)) x1 m) fun r6 => some r6 else some ((-1)))) = some r0 → RN xs L al (Ev xs L al d) 52 86 [(0, .ref 0), (1, .int x1), (2, .int x2)] [] (m, S) (some (.int r0)) (m, S) := by
            intro _ h
            try dsimp only at h
            refine rsn 2 (t := (89, [(0, .ref 0), (1, .int x1), (2, .int x2)], [.int 7, .int x2])) rfl ?_
            by_cases c5 : x2 = 7
            · rw [if_pos c5] at h
              refine rjf (a := (108, [(0, .ref 0), (1, .int x1), (2, .int x2)], [])) (b := (92, [(0, .ref 0), (1, .int x1), (2, .int x2)], [])) rfl rfl (fun q => q c5) ?_
              refine rsn 1 (t := (93, [(0, .ref 0), (1, .int x1), (2, .int x2)], [.ref 0])) rfl ?_
              refine rgR rfl rfl rfl (hSh.1.k 0 rfl _) (hSh.1.r 88 rfl _) ?_
              refine rsn 2 (t := (98, [(0, .ref 0), (1, .int x1), (2, .int x2)], [.ref 0, .int x1, .ref 10])) rfl ?_
              refine pgJ rfl rfl rfl (hSh.1.k 0 rfl _) ?_
              show RN xs L al (Ev xs L al d) 52 101 [(0, .ref 0), (1, .int x1), (2, .int x2)] [.long ((mJ m 0 7)), .int x1, .ref 10] (m, S) (some (.int r0)) (m, S)
              refine rsn 1 (t := (102, [(0, .ref 0), (1, .int x1), (2, .int x2)], [.int x1, .long ((mJ m 0 7)), .int x1, .ref 10])) rfl ?_
              obtain ⟨r6, g6, h⟩ := b1_some h
              refine rcV 58 10 [.int x1, .long ((mJ m 0 7)), .int x1] rfl rfl rfl (hSh.1.k 10 rfl _) (Nat.le_of_ble_eq_true rfl) rfl (e_Will_valueOf N (by omega) hSh (by decide) g6) ?_
              show RN xs L al (Ev xs L al d) 52 105 [(0, .ref 0), (1, .int x1), (2, .int x2)] [.int r6] (m, S) (some (.int r0)) (m, S)
              refine rsn 1 (t := (109, [(0, .ref 0), (1, .int x1), (2, .int x2)], [.int r6])) rfl ?_
              cases h
              exact rret rfl ⟨rfl, rfl, _, _, rfl, rfl, rfl, rfl⟩
            · rw [if_neg c5] at h
              refine rjt (a := (108, [(0, .ref 0), (1, .int x1), (2, .int x2)], [])) (b := (92, [(0, .ref 0), (1, .int x1), (2, .int x2)], [])) rfl rfl c5 ?_
              refine rsn 1 (t := (109, [(0, .ref 0), (1, .int x1), (2, .int x2)], [.int ((-1))])) rfl ?_
              cases h
              exact rret rfl ⟨rfl, rfl, _, _, rfl, rfl, rfl, rfl⟩
          rw [jn] at h
          try dsimp only at h
          by_cases c7 : x2 < 4
          · rw [if_pos c7] at h
            refine rjt (a := (86, [(0, .ref 0), (1, .int x1), (2, .int x2)], [])) (b := (68, [(0, .ref 0), (1, .int x1), (2, .int x2)], [])) rfl rfl c7 ?_
            exact rsub [(0, .ref 0), (1, .int x1), (2, .int x2)] ⟨rfl, ⟨rfl, ⟨rfl, trivial⟩⟩⟩ ⟨rfl, ⟨rfl, ⟨rfl, trivial⟩⟩⟩ (jp86 () h)
          · rw [if_neg c7] at h
            refine rjf (a := (86, [(0, .ref 0), (1, .int x1), (2, .int x2)], [])) (b := (68, [(0, .ref 0), (1, .int x1), (2, .int x2)], [])) rfl rfl c7 ?_
            refine rsn 2 (t := (71, [(0, .ref 0), (1, .int x1), (2, .int x2)], [.int 6, .int x2])) rfl ?_
            by_cases c8 : 6 < x2
            · rw [if_pos c8] at h
              refine rjt (a := (86, [(0, .ref 0), (1, .int x1), (2, .int x2)], [])) (b := (74, [(0, .ref 0), (1, .int x1), (2, .int x2)], [])) rfl rfl c8 ?_
              exact rsub [(0, .ref 0), (1, .int x1), (2, .int x2)] ⟨rfl, ⟨rfl, ⟨rfl, trivial⟩⟩⟩ ⟨rfl, ⟨rfl, ⟨rfl, trivial⟩⟩⟩ (jp86 () h)
            · rw [if_neg c8] at h
              refine rjf (a := (86, [(0, .ref 0), (1, .int x1), (2, .int x2)], [])) (b := (74, [(0, .ref 0), (1, .int x1), (2, .int x2)], [])) rfl rfl c8 ?_
              refine rsn 1 (t := (75, [(0, .ref 0), (1, .int x1), (2, .int x2)], [.ref 0])) rfl ?_
              refine pgJ rfl rfl rfl (hSh.1.k 0 rfl _) ?_
              show RN xs L al (Ev xs L al d) 52 78 [(0, .ref 0), (1, .int x1), (2, .int x2)] [.long ((mJ m 0 7))] (m, S) (some (.int r0)) (m, S)
              refine rsn 4 (t := (82, [(0, .ref 0), (1, .int x1), (2, .int x2)], [.int x1, .int ((x2 - 4)), .long ((mJ m 0 7))])) rfl ?_
              obtain ⟨r9, g9, h⟩ := b1_some h
              refine rcS 57 [.long ((mJ m 0 7)), .int ((x2 - 4)), .int x1] rfl rfl rfl (Nat.le_of_ble_eq_true rfl) rfl (e_State_amount N (by omega) g9) ?_
              show RN xs L al (Ev xs L al d) 52 85 [(0, .ref 0), (1, .int x1), (2, .int x2)] [.int r9] (m, S) (some (.int r0)) (m, S)
              cases h
              exact rret rfl ⟨rfl, rfl, _, _, rfl, rfl, rfl, rfl⟩
        rw [jn] at h
        try dsimp only at h
        by_cases c10 : x2 < 1
        · rw [if_pos c10] at h
          refine rjt (a := (63, [(0, .ref 0), (1, .int x1), (2, .int x2)], [])) (b := (46, [(0, .ref 0), (1, .int x1), (2, .int x2)], [])) rfl rfl c10 ?_
          exact rsub [(0, .ref 0), (1, .int x1), (2, .int x2)] ⟨rfl, ⟨rfl, ⟨rfl, trivial⟩⟩⟩ ⟨rfl, ⟨rfl, ⟨rfl, trivial⟩⟩⟩ (jp63 () h)
        · rw [if_neg c10] at h
          refine rjf (a := (63, [(0, .ref 0), (1, .int x1), (2, .int x2)], [])) (b := (46, [(0, .ref 0), (1, .int x1), (2, .int x2)], [])) rfl rfl c10 ?_
          refine rsn 2 (t := (48, [(0, .ref 0), (1, .int x1), (2, .int x2)], [.int 3, .int x2])) rfl ?_
          by_cases c11 : 3 < x2
          · rw [if_pos c11] at h
            refine rjt (a := (63, [(0, .ref 0), (1, .int x1), (2, .int x2)], [])) (b := (51, [(0, .ref 0), (1, .int x1), (2, .int x2)], [])) rfl rfl c11 ?_
            exact rsub [(0, .ref 0), (1, .int x1), (2, .int x2)] ⟨rfl, ⟨rfl, ⟨rfl, trivial⟩⟩⟩ ⟨rfl, ⟨rfl, ⟨rfl, trivial⟩⟩⟩ (jp63 () h)
          · rw [if_neg c11] at h
            refine rjf (a := (63, [(0, .ref 0), (1, .int x1), (2, .int x2)], [])) (b := (51, [(0, .ref 0), (1, .int x1), (2, .int x2)], [])) rfl rfl c11 ?_
            refine rsn 1 (t := (52, [(0, .ref 0), (1, .int x1), (2, .int x2)], [.ref 0])) rfl ?_
            refine rgR rfl rfl rfl (hSh.1.k 0 rfl _) (hSh.1.r 88 rfl _) ?_
            refine rsn 4 (t := (59, [(0, .ref 0), (1, .int x1), (2, .int x2)], [.int ((x2 - 1)), .int x1, .ref 10])) rfl ?_
            obtain ⟨r12, g12, h⟩ := b1_some h
            refine rcV 56 10 [.int x1, .int ((x2 - 1))] rfl rfl rfl (hSh.1.k 10 rfl _) (Nat.le_of_ble_eq_true rfl) rfl (e_Will_worth N (by omega) hSh (by decide) g12) ?_
            show RN xs L al (Ev xs L al d) 52 62 [(0, .ref 0), (1, .int x1), (2, .int x2)] [.int r12] (m, S) (some (.int r0)) (m, S)
            cases h
            exact rret rfl ⟨rfl, rfl, _, _, rfl, rfl, rfl, rfl⟩
def f_Will_chance (N : Nat) (S : St) (x0 : Nat) (x1 : Int32) (x2 : Int32) (m : Mm) : Option (Int32) := b1 (f_Will_isAlt N S x0 x1 x2 m) fun r1 => (if r1 = 0 then some 0 else ck (ix ((((x1 * 3)) + x2)) 18) (some ((mX m ((x0 + 4)) (((((x1 * 3)) + x2)).toNatClampNeg)))))
set_option maxRecDepth 20000 in
set_option maxHeartbeats 4000000 in
theorem e_Will_chance {xs : Nat → Int32} {L : Nat} {al : Bool} (N : Nat) {d : Nat} (hd : 2 ≤ d) {S : St} (hSh : ShC S) {x0 : Nat} {x1 : Int32} {x2 : Int32} (hx0 : x0 ∈ wKl) {m : Mm} {r0 : Int32} (h : f_Will_chance N S x0 x1 x2 m = some r0) : Ev xs L al d 60 [.ref x0, .int x1, .int x2] (m, S) (some (.int r0)) (m, S) := by
  obtain ⟨d, rfl⟩ : ∃ e, d = e + 1 := ⟨d - 1, by omega⟩
  refine ev_of (by decide) (Nat.le_of_ble_eq_true rfl) ?_
  rw [f_Will_chance] at h
  show RN xs L al (Ev xs L al d) 60 0 [(0, .ref x0), (1, .int x1), (2, .int x2)] [] (m, S) (some (.int r0)) (m, S)
  refine rsn 3 (t := (3, [(0, .ref x0), (1, .int x1), (2, .int x2)], [.int x2, .int x1, .ref x0])) rfl ?_
  obtain ⟨r1, g1, h⟩ := b1_some h
  refine rcV 50 x0 [.int x1, .int x2] rfl rfl rfl (hSh.kW hx0 _) (Nat.le_of_ble_eq_true rfl) rfl (e_Will_isAlt N (by omega) hSh hx0 g1) ?_
  show RN xs L al (Ev xs L al d) 60 6 [(0, .ref x0), (1, .int x1), (2, .int x2)] [.int r1] (m, S) (some (.int r0)) (m, S)
  by_cases c2 : r1 = 0
  · rw [if_pos c2] at h
    refine rjt (a := (22, [(0, .ref x0), (1, .int x1), (2, .int x2)], [])) (b := (9, [(0, .ref x0), (1, .int x1), (2, .int x2)], [])) rfl rfl c2 ?_
    refine rsn 1 (t := (23, [(0, .ref x0), (1, .int x1), (2, .int x2)], [.int 0])) rfl ?_
    cases h
    exact rret rfl ⟨rfl, rfl, _, _, rfl, rfl, rfl, rfl⟩
  · rw [if_neg c2] at h
    refine rjf (a := (22, [(0, .ref x0), (1, .int x1), (2, .int x2)], [])) (b := (9, [(0, .ref x0), (1, .int x1), (2, .int x2)], [])) rfl rfl c2 ?_
    refine rsn 1 (t := (10, [(0, .ref x0), (1, .int x1), (2, .int x2)], [.ref x0])) rfl ?_
    refine rgR rfl rfl rfl (hSh.kW hx0 _) (hSh.rWa4 hx0 _) ?_
    refine rsn 5 (t := (18, [(0, .ref x0), (1, .int x1), (2, .int x2)], [.int ((((x1 * 3)) + x2)), .ref ((x0 + 4))])) rfl ?_
    obtain ⟨c3, h⟩ := ck_some h
    refine pxI rfl (hSh.kWa4 hx0 _) (hSh.lWa4 hx0 _) c3 ?_
    show RN xs L al (Ev xs L al d) 60 19 [(0, .ref x0), (1, .int x1), (2, .int x2)] [.int ((mX m ((x0 + 4)) (((((x1 * 3)) + x2)).toNatClampNeg)))] (m, S) (some (.int r0)) (m, S)
    refine rsn 1 (t := (23, [(0, .ref x0), (1, .int x1), (2, .int x2)], [.int ((mX m ((x0 + 4)) (((((x1 * 3)) + x2)).toNatClampNeg)))])) rfl ?_
    cases h
    exact rret rfl ⟨rfl, rfl, _, _, rfl, rfl, rfl, rfl⟩
def f_Will_target (N : Nat) (S : St) (x0 : Nat) (x1 : Int32) (x2 : Int32) (m : Mm) : Option (Int32) := b1 (f_Will_isAlt N S x0 x1 x2 m) fun r1 => (if r1 = 0 then some ((-1)) else ck (ix ((((x1 * 3)) + x2)) 18) (some ((mX m ((x0 + 6)) (((((x1 * 3)) + x2)).toNatClampNeg)))))
set_option maxRecDepth 20000 in
set_option maxHeartbeats 4000000 in
theorem e_Will_target {xs : Nat → Int32} {L : Nat} {al : Bool} (N : Nat) {d : Nat} (hd : 2 ≤ d) {S : St} (hSh : ShC S) {x0 : Nat} {x1 : Int32} {x2 : Int32} (hx0 : x0 ∈ wKl) {m : Mm} {r0 : Int32} (h : f_Will_target N S x0 x1 x2 m = some r0) : Ev xs L al d 61 [.ref x0, .int x1, .int x2] (m, S) (some (.int r0)) (m, S) := by
  obtain ⟨d, rfl⟩ : ∃ e, d = e + 1 := ⟨d - 1, by omega⟩
  refine ev_of (by decide) (Nat.le_of_ble_eq_true rfl) ?_
  rw [f_Will_target] at h
  show RN xs L al (Ev xs L al d) 61 0 [(0, .ref x0), (1, .int x1), (2, .int x2)] [] (m, S) (some (.int r0)) (m, S)
  refine rsn 3 (t := (3, [(0, .ref x0), (1, .int x1), (2, .int x2)], [.int x2, .int x1, .ref x0])) rfl ?_
  obtain ⟨r1, g1, h⟩ := b1_some h
  refine rcV 50 x0 [.int x1, .int x2] rfl rfl rfl (hSh.kW hx0 _) (Nat.le_of_ble_eq_true rfl) rfl (e_Will_isAlt N (by omega) hSh hx0 g1) ?_
  show RN xs L al (Ev xs L al d) 61 6 [(0, .ref x0), (1, .int x1), (2, .int x2)] [.int r1] (m, S) (some (.int r0)) (m, S)
  by_cases c2 : r1 = 0
  · rw [if_pos c2] at h
    refine rjt (a := (22, [(0, .ref x0), (1, .int x1), (2, .int x2)], [])) (b := (9, [(0, .ref x0), (1, .int x1), (2, .int x2)], [])) rfl rfl c2 ?_
    refine rsn 1 (t := (23, [(0, .ref x0), (1, .int x1), (2, .int x2)], [.int ((-1))])) rfl ?_
    cases h
    exact rret rfl ⟨rfl, rfl, _, _, rfl, rfl, rfl, rfl⟩
  · rw [if_neg c2] at h
    refine rjf (a := (22, [(0, .ref x0), (1, .int x1), (2, .int x2)], [])) (b := (9, [(0, .ref x0), (1, .int x1), (2, .int x2)], [])) rfl rfl c2 ?_
    refine rsn 1 (t := (10, [(0, .ref x0), (1, .int x1), (2, .int x2)], [.ref x0])) rfl ?_
    refine rgR rfl rfl rfl (hSh.kW hx0 _) (hSh.rWa6 hx0 _) ?_
    refine rsn 5 (t := (18, [(0, .ref x0), (1, .int x1), (2, .int x2)], [.int ((((x1 * 3)) + x2)), .ref ((x0 + 6))])) rfl ?_
    obtain ⟨c3, h⟩ := ck_some h
    refine pxI rfl (hSh.kWa6 hx0 _) (hSh.lWa6 hx0 _) c3 ?_
    show RN xs L al (Ev xs L al d) 61 19 [(0, .ref x0), (1, .int x1), (2, .int x2)] [.int ((mX m ((x0 + 6)) (((((x1 * 3)) + x2)).toNatClampNeg)))] (m, S) (some (.int r0)) (m, S)
    refine rsn 1 (t := (23, [(0, .ref x0), (1, .int x1), (2, .int x2)], [.int ((mX m ((x0 + 6)) (((((x1 * 3)) + x2)).toNatClampNeg)))])) rfl ?_
    cases h
    exact rret rfl ⟨rfl, rfl, _, _, rfl, rfl, rfl, rfl⟩
def f_SC_alt (N : Nat) (S : St) (x1 : Int32) (x2 : Int32) (x3 : Int32) (m : Mm) : Option (Int32) := (if ((mI m 0 6)) = 0 then some ((-1)) else b1 (f_Will_isAlt N S 10 x1 x2 m) fun r2 => (if r2 = 0 then some ((-1)) else (if x3 = 0 then b1 (f_Will_chance N S 10 x1 x2 m) fun r4 => some r4 else (if x3 = 1 then b1 (f_Will_kind N S 10 x1 x2 m) fun r5 => some r5 else (if x3 = 2 then b1 (f_Will_target N S 10 x1 x2 m) fun r6 => some r6 else some ((-1)))))))
set_option maxRecDepth 20000 in
set_option maxHeartbeats 4000000 in
theorem e_SC_alt {xs : Nat → Int32} {L : Nat} {al : Bool} (N : Nat) {d : Nat} (hd : 3 ≤ d) {S : St} (hSh : ShC S) {x1 : Int32} {x2 : Int32} {x3 : Int32} {m : Mm} {r0 : Int32} (h : f_SC_alt N S x1 x2 x3 m = some r0) : Ev xs L al d 59 [.ref 0, .int x1, .int x2, .int x3] (m, S) (some (.int r0)) (m, S) := by
  obtain ⟨d, rfl⟩ : ∃ e, d = e + 1 := ⟨d - 1, by omega⟩
  refine ev_of (by decide) (Nat.le_of_ble_eq_true rfl) ?_
  rw [f_SC_alt] at h
  show RN xs L al (Ev xs L al d) 59 0 [(0, .ref 0), (1, .int x1), (2, .int x2), (3, .int x3)] [] (m, S) (some (.int r0)) (m, S)
  refine rsn 1 (t := (1, [(0, .ref 0), (1, .int x1), (2, .int x2), (3, .int x3)], [.ref 0])) rfl ?_
  refine pgI rfl rfl rfl (hSh.1.k 0 rfl _) ?_
  show RN xs L al (Ev xs L al d) 59 4 [(0, .ref 0), (1, .int x1), (2, .int x2), (3, .int x3)] [.int ((mI m 0 6))] (m, S) (some (.int r0)) (m, S)
  by_cases c1 : ((mI m 0 6)) = 0
  · rw [if_pos c1] at h
    refine rjt (a := (19, [(0, .ref 0), (1, .int x1), (2, .int x2), (3, .int x3)], [])) (b := (7, [(0, .ref 0), (1, .int x1), (2, .int x2), (3, .int x3)], [])) rfl rfl c1 ?_
    refine rsn 1 (t := (20, [(0, .ref 0), (1, .int x1), (2, .int x2), (3, .int x3)], [.int ((-1))])) rfl ?_
    cases h
    exact rret rfl ⟨rfl, rfl, _, _, rfl, rfl, rfl, rfl⟩
  · rw [if_neg c1] at h
    refine rjf (a := (19, [(0, .ref 0), (1, .int x1), (2, .int x2), (3, .int x3)], [])) (b := (7, [(0, .ref 0), (1, .int x1), (2, .int x2), (3, .int x3)], [])) rfl rfl c1 ?_
    refine rsn 1 (t := (8, [(0, .ref 0), (1, .int x1), (2, .int x2), (3, .int x3)], [.ref 0])) rfl ?_
    refine rgR rfl rfl rfl (hSh.1.k 0 rfl _) (hSh.1.r 88 rfl _) ?_
    refine rsn 2 (t := (13, [(0, .ref 0), (1, .int x1), (2, .int x2), (3, .int x3)], [.int x2, .int x1, .ref 10])) rfl ?_
    obtain ⟨r2, g2, h⟩ := b1_some h
    refine rcV 50 10 [.int x1, .int x2] rfl rfl rfl (hSh.1.k 10 rfl _) (Nat.le_of_ble_eq_true rfl) rfl (e_Will_isAlt N (by omega) hSh (by decide) g2) ?_
    show RN xs L al (Ev xs L al d) 59 16 [(0, .ref 0), (1, .int x1), (2, .int x2), (3, .int x3)] [.int r2] (m, S) (some (.int r0)) (m, S)
    by_cases c3 : r2 = 0
    · rw [if_pos c3] at h
      refine rjf (a := (21, [(0, .ref 0), (1, .int x1), (2, .int x2), (3, .int x3)], [])) (b := (19, [(0, .ref 0), (1, .int x1), (2, .int x2), (3, .int x3)], [])) rfl rfl (fun q => q c3) ?_
      refine rsn 1 (t := (20, [(0, .ref 0), (1, .int x1), (2, .int x2), (3, .int x3)], [.int ((-1))])) rfl ?_
      cases h
      exact rret rfl ⟨rfl, rfl, _, _, rfl, rfl, rfl, rfl⟩
    · rw [if_neg c3] at h
      refine rjt (a := (21, [(0, .ref 0), (1, .int x1), (2, .int x2), (3, .int x3)], [])) (b := (19, [(0, .ref 0), (1, .int x1), (2, .int x2), (3, .int x3)], [])) rfl rfl c3 ?_
      refine rsn 1 (t := (22, [(0, .ref 0), (1, .int x1), (2, .int x2), (3, .int x3)], [.int x3])) rfl ?_
      by_cases c7 : x3 = 0
      · rw [if_pos c7] at h
        refine rs (t := (48, [(0, .ref 0), (1, .int x1), (2, .int x2), (3, .int x3)], [])) rfl (by rw [c7]; exact sw_i (pc := 22) (o := 26) ⟨by decide, by simp⟩ (by decide) (by decide)) ?_
        refine rsn 1 (t := (49, [(0, .ref 0), (1, .int x1), (2, .int x2), (3, .int x3)], [.ref 0])) rfl ?_
        refine rgR rfl rfl rfl (hSh.1.k 0 rfl _) (hSh.1.r 88 rfl _) ?_
        refine rsn 2 (t := (54, [(0, .ref 0), (1, .int x1), (2, .int x2), (3, .int x3)], [.int x2, .int x1, .ref 10])) rfl ?_
        obtain ⟨r4, g4, h⟩ := b1_some h
        refine rcV 60 10 [.int x1, .int x2] rfl rfl rfl (hSh.1.k 10 rfl _) (Nat.le_of_ble_eq_true rfl) rfl (e_Will_chance N (by omega) hSh (by decide) g4) ?_
        show RN xs L al (Ev xs L al d) 59 57 [(0, .ref 0), (1, .int x1), (2, .int x2), (3, .int x3)] [.int r4] (m, S) (some (.int r0)) (m, S)
        cases h
        exact rret rfl ⟨rfl, rfl, _, _, rfl, rfl, rfl, rfl⟩
      rw [if_neg c7] at h
      by_cases c8 : x3 = 1
      · rw [if_pos c8] at h
        refine rs (t := (58, [(0, .ref 0), (1, .int x1), (2, .int x2), (3, .int x3)], [])) rfl (by rw [c8]; exact sw_i (pc := 22) (o := 36) ⟨by decide, by simp⟩ (by decide) (by decide)) ?_
        refine rsn 1 (t := (59, [(0, .ref 0), (1, .int x1), (2, .int x2), (3, .int x3)], [.ref 0])) rfl ?_
        refine rgR rfl rfl rfl (hSh.1.k 0 rfl _) (hSh.1.r 88 rfl _) ?_
        refine rsn 2 (t := (64, [(0, .ref 0), (1, .int x1), (2, .int x2), (3, .int x3)], [.int x2, .int x1, .ref 10])) rfl ?_
        obtain ⟨r5, g5, h⟩ := b1_some h
        refine rcV 49 10 [.int x1, .int x2] rfl rfl rfl (hSh.1.k 10 rfl _) (Nat.le_of_ble_eq_true rfl) rfl (e_Will_kind N (by omega) hSh (by decide) g5) ?_
        show RN xs L al (Ev xs L al d) 59 67 [(0, .ref 0), (1, .int x1), (2, .int x2), (3, .int x3)] [.int r5] (m, S) (some (.int r0)) (m, S)
        cases h
        exact rret rfl ⟨rfl, rfl, _, _, rfl, rfl, rfl, rfl⟩
      rw [if_neg c8] at h
      by_cases c9 : x3 = 2
      · rw [if_pos c9] at h
        refine rs (t := (68, [(0, .ref 0), (1, .int x1), (2, .int x2), (3, .int x3)], [])) rfl (by rw [c9]; exact sw_i (pc := 22) (o := 46) ⟨by decide, by simp⟩ (by decide) (by decide)) ?_
        refine rsn 1 (t := (69, [(0, .ref 0), (1, .int x1), (2, .int x2), (3, .int x3)], [.ref 0])) rfl ?_
        refine rgR rfl rfl rfl (hSh.1.k 0 rfl _) (hSh.1.r 88 rfl _) ?_
        refine rsn 2 (t := (74, [(0, .ref 0), (1, .int x1), (2, .int x2), (3, .int x3)], [.int x2, .int x1, .ref 10])) rfl ?_
        obtain ⟨r6, g6, h⟩ := b1_some h
        refine rcV 61 10 [.int x1, .int x2] rfl rfl rfl (hSh.1.k 10 rfl _) (Nat.le_of_ble_eq_true rfl) rfl (e_Will_target N (by omega) hSh (by decide) g6) ?_
        show RN xs L al (Ev xs L al d) 59 77 [(0, .ref 0), (1, .int x1), (2, .int x2), (3, .int x3)] [.int r6] (m, S) (some (.int r0)) (m, S)
        cases h
        exact rret rfl ⟨rfl, rfl, _, _, rfl, rfl, rfl, rfl⟩
      rw [if_neg c9] at h
      refine rs (t := (78, [(0, .ref 0), (1, .int x1), (2, .int x2), (3, .int x3)], [])) rfl (sw_d (pc := 22) ⟨by decide, by simp⟩ (sw_out (n := 2) (by intro i hi; match i, hi with | 0, _ => exact c7 | 1, _ => exact c8 | 2, _ => exact c9 | i + 3, hi => exact absurd hi (by omega)) (by decide))) ?_
      refine rsn 1 (t := (79, [(0, .ref 0), (1, .int x1), (2, .int x2), (3, .int x3)], [.int ((-1))])) rfl ?_
      cases h
      exact rret rfl ⟨rfl, rfl, _, _, rfl, rfl, rfl, rfl⟩
def f_Will_thing (N : Nat) (S : St) (x0 : Nat) (x1 : Int32) (x2 : Int32) (m : Mm) : Option (Int32) := b1 (f_Will_kind N S x0 x1 x2 m) fun r1 => (if r1 = 0 then b1 (f_Will_target N S x0 x1 x2 m) fun r3 => some r3 else some ((-1)))
set_option maxRecDepth 20000 in
set_option maxHeartbeats 4000000 in
theorem e_Will_thing {xs : Nat → Int32} {L : Nat} {al : Bool} (N : Nat) {d : Nat} (hd : 3 ≤ d) {S : St} (hSh : ShC S) {x0 : Nat} {x1 : Int32} {x2 : Int32} (hx0 : x0 ∈ wKl) {m : Mm} {r0 : Int32} (h : f_Will_thing N S x0 x1 x2 m = some r0) : Ev xs L al d 64 [.ref x0, .int x1, .int x2] (m, S) (some (.int r0)) (m, S) := by
  obtain ⟨d, rfl⟩ : ∃ e, d = e + 1 := ⟨d - 1, by omega⟩
  refine ev_of (by decide) (Nat.le_of_ble_eq_true rfl) ?_
  rw [f_Will_thing] at h
  show RN xs L al (Ev xs L al d) 64 0 [(0, .ref x0), (1, .int x1), (2, .int x2)] [] (m, S) (some (.int r0)) (m, S)
  refine rsn 3 (t := (3, [(0, .ref x0), (1, .int x1), (2, .int x2)], [.int x2, .int x1, .ref x0])) rfl ?_
  obtain ⟨r1, g1, h⟩ := b1_some h
  refine rcV 49 x0 [.int x1, .int x2] rfl rfl rfl (hSh.kW hx0 _) (Nat.le_of_ble_eq_true rfl) rfl (e_Will_kind N (by omega) hSh hx0 g1) ?_
  show RN xs L al (Ev xs L al d) 64 6 [(0, .ref x0), (1, .int x1), (2, .int x2)] [.int r1] (m, S) (some (.int r0)) (m, S)
  by_cases c2 : r1 = 0
  · rw [if_pos c2] at h
    refine rjf (a := (18, [(0, .ref x0), (1, .int x1), (2, .int x2)], [])) (b := (9, [(0, .ref x0), (1, .int x1), (2, .int x2)], [])) rfl rfl (fun q => q c2) ?_
    refine rsn 3 (t := (12, [(0, .ref x0), (1, .int x1), (2, .int x2)], [.int x2, .int x1, .ref x0])) rfl ?_
    obtain ⟨r3, g3, h⟩ := b1_some h
    refine rcV 61 x0 [.int x1, .int x2] rfl rfl rfl (hSh.kW hx0 _) (Nat.le_of_ble_eq_true rfl) rfl (e_Will_target N (by omega) hSh hx0 g3) ?_
    show RN xs L al (Ev xs L al d) 64 15 [(0, .ref x0), (1, .int x1), (2, .int x2)] [.int r3] (m, S) (some (.int r0)) (m, S)
    refine rsn 1 (t := (19, [(0, .ref x0), (1, .int x1), (2, .int x2)], [.int r3])) rfl ?_
    cases h
    exact rret rfl ⟨rfl, rfl, _, _, rfl, rfl, rfl, rfl⟩
  · rw [if_neg c2] at h
    refine rjt (a := (18, [(0, .ref x0), (1, .int x1), (2, .int x2)], [])) (b := (9, [(0, .ref x0), (1, .int x1), (2, .int x2)], [])) rfl rfl c2 ?_
    refine rsn 1 (t := (19, [(0, .ref x0), (1, .int x1), (2, .int x2)], [.int ((-1))])) rfl ?_
    cases h
    exact rret rfl ⟨rfl, rfl, _, _, rfl, rfl, rfl, rfl⟩
def f_Will_passed (N : Nat) (S : St) (x0 : Nat) (x1 : Int64) (x3 : Int32) (x4 : Int32) (m : Mm) : Option (Int64) := b1 (f_Will_kind N S x0 x3 x4 m) fun r1 => (if r1 = 1 then b1 (f_Will_target N S x0 x3 x4 m) fun r3 => some ((((x1 + 549755813888)) ||| ((lsl 1 ((36 + r3)))))) else some ((x1 + 549755813888)))
set_option maxRecDepth 20000 in
set_option maxHeartbeats 4000000 in
theorem e_Will_passed {xs : Nat → Int32} {L : Nat} {al : Bool} (N : Nat) {d : Nat} (hd : 3 ≤ d) {S : St} (hSh : ShC S) {x0 : Nat} {x1 : Int64} {x3 : Int32} {x4 : Int32} (hx0 : x0 ∈ wKl) {m : Mm} {r0 : Int64} (h : f_Will_passed N S x0 x1 x3 x4 m = some r0) : Ev xs L al d 65 [.ref x0, .long x1, .int x3, .int x4] (m, S) (some (.long r0)) (m, S) := by
  obtain ⟨d, rfl⟩ : ∃ e, d = e + 1 := ⟨d - 1, by omega⟩
  refine ev_of (by decide) (Nat.le_of_ble_eq_true rfl) ?_
  rw [f_Will_passed] at h
  show RN xs L al (Ev xs L al d) 65 0 [(0, .ref x0), (1, .long x1), (3, .int x3), (4, .int x4)] [] (m, S) (some (.long r0)) (m, S)
  refine rsn 7 (t := (11, [(5, .long ((x1 + 549755813888))), (0, .ref x0), (1, .long x1), (3, .int x3), (4, .int x4)], [.int x4, .int x3, .ref x0])) rfl ?_
  obtain ⟨r1, g1, h⟩ := b1_some h
  refine rcV 49 x0 [.int x3, .int x4] rfl rfl rfl (hSh.kW hx0 _) (Nat.le_of_ble_eq_true rfl) rfl (e_Will_kind N (by omega) hSh hx0 g1) ?_
  show RN xs L al (Ev xs L al d) 65 14 [(5, .long ((x1 + 549755813888))), (0, .ref x0), (1, .long x1), (3, .int x3), (4, .int x4)] [.int r1] (m, S) (some (.long r0)) (m, S)
  refine rsn 1 (t := (15, [(5, .long ((x1 + 549755813888))), (0, .ref x0), (1, .long x1), (3, .int x3), (4, .int x4)], [.int 1, .int r1])) rfl ?_
  by_cases c2 : r1 = 1
  · rw [if_pos c2] at h
    refine rjf (a := (36, [(5, .long ((x1 + 549755813888))), (0, .ref x0), (1, .long x1), (3, .int x3), (4, .int x4)], [])) (b := (18, [(5, .long ((x1 + 549755813888))), (0, .ref x0), (1, .long x1), (3, .int x3), (4, .int x4)], [])) rfl rfl (fun q => q c2) ?_
    refine rsn 6 (t := (27, [(5, .long ((x1 + 549755813888))), (0, .ref x0), (1, .long x1), (3, .int x3), (4, .int x4)], [.int x4, .int x3, .ref x0, .int 36, .long 1, .long ((x1 + 549755813888))])) rfl ?_
    obtain ⟨r3, g3, h⟩ := b1_some h
    refine rcV 61 x0 [.int x3, .int x4] rfl rfl rfl (hSh.kW hx0 _) (Nat.le_of_ble_eq_true rfl) rfl (e_Will_target N (by omega) hSh hx0 g3) ?_
    show RN xs L al (Ev xs L al d) 65 30 [(5, .long ((x1 + 549755813888))), (0, .ref x0), (1, .long x1), (3, .int x3), (4, .int x4)] [.int r3, .int 36, .long 1, .long ((x1 + 549755813888))] (m, S) (some (.long r0)) (m, S)
    refine rsn 4 (t := (38, [(5, .long ((x1 + 549755813888))), (0, .ref x0), (1, .long x1), (3, .int x3), (4, .int x4)], [.long ((((x1 + 549755813888)) ||| ((lsl 1 ((36 + r3))))))])) rfl ?_
    cases h
    exact rret rfl ⟨rfl, rfl, _, rfl, rfl, rfl⟩
  · rw [if_neg c2] at h
    refine rjt (a := (36, [(5, .long ((x1 + 549755813888))), (0, .ref x0), (1, .long x1), (3, .int x3), (4, .int x4)], [])) (b := (18, [(5, .long ((x1 + 549755813888))), (0, .ref x0), (1, .long x1), (3, .int x3), (4, .int x4)], [])) rfl rfl c2 ?_
    refine rsn 1 (t := (38, [(5, .long ((x1 + 549755813888))), (0, .ref x0), (1, .long x1), (3, .int x3), (4, .int x4)], [.long ((x1 + 549755813888))])) rfl ?_
    cases h
    exact rret rfl ⟨rfl, rfl, _, rfl, rfl, rfl⟩
def f_SC_come (N : Nat) (S : St) (x1 : Int32) (m : Mm) : Option (Int32 × Mm) := b1 (f_State_dayOf N ((mJ m 0 7))) fun r1 => (if ((mI m 0 6)) = 0 then some ((-1), m) else (if ((mI m 0 8)) = ((-1)) then b1 (f_Will_isAlt N S 10 r1 x1 m) fun r4 => (if r4 = 0 then some ((-1), m) else b1 (f_Will_thing N S 10 r1 x1 m) fun r6 => b1 (f_Will_passed N S 10 ((mJ m 0 7)) r1 x1 (vI m 0 8 r6)) fun r7 => b1 (f_State_dayOf N r7) fun r8 => some (r8, (vJ (vI m 0 8 r6) 0 7 r7))) else some ((-1), m)))
set_option maxRecDepth 20000 in
set_option maxHeartbeats 4000000 in
theorem e_SC_come {xs : Nat → Int32} {L : Nat} {al : Bool} (N : Nat) {d : Nat} (hd : 4 ≤ d) {S : St} (hSh : ShC S) {x1 : Int32} {m : Mm} {r0 : Int32} {mf : Mm} (h : f_SC_come N S x1 m = some (r0, mf)) : Ev xs L al d 62 [.ref 0, .int x1] (m, S) (some (.int r0)) (mf, S) := by
  obtain ⟨d, rfl⟩ : ∃ e, d = e + 1 := ⟨d - 1, by omega⟩
  refine ev_of (by decide) (Nat.le_of_ble_eq_true rfl) ?_
  rw [f_SC_come] at h
  show RN xs L al (Ev xs L al d) 62 0 [(0, .ref 0), (1, .int x1)] [] (m, S) (some (.int r0)) (mf, S)
  refine rsn 1 (t := (1, [(0, .ref 0), (1, .int x1)], [.ref 0])) rfl ?_
  refine pgJ rfl rfl rfl (hSh.1.k 0 rfl _) ?_
  show RN xs L al (Ev xs L al d) 62 4 [(0, .ref 0), (1, .int x1)] [.long ((mJ m 0 7))] (m, S) (some (.int r0)) (mf, S)
  obtain ⟨r1, g1, h⟩ := b1_some h
  refine rcS 63 [.long ((mJ m 0 7))] rfl rfl rfl (Nat.le_of_ble_eq_true rfl) rfl (e_State_dayOf N (by omega) g1) ?_
  show RN xs L al (Ev xs L al d) 62 7 [(0, .ref 0), (1, .int x1)] [.int r1] (m, S) (some (.int r0)) (mf, S)
  refine rsn 2 (t := (9, [(2, .int r1), (0, .ref 0), (1, .int x1)], [.ref 0])) rfl ?_
  refine pgI rfl rfl rfl (hSh.1.k 0 rfl _) ?_
  show RN xs L al (Ev xs L al d) 62 12 [(2, .int r1), (0, .ref 0), (1, .int x1)] [.int ((mI m 0 6))] (m, S) (some (.int r0)) (mf, S)
  by_cases c2 : ((mI m 0 6)) = 0
  · rw [if_pos c2] at h
    refine rjt (a := (35, [(2, .int r1), (0, .ref 0), (1, .int x1)], [])) (b := (15, [(2, .int r1), (0, .ref 0), (1, .int x1)], [])) rfl rfl c2 ?_
    refine rsn 1 (t := (36, [(2, .int r1), (0, .ref 0), (1, .int x1)], [.int ((-1))])) rfl ?_
    cases h
    exact rret rfl ⟨rfl, rfl, _, _, rfl, rfl, rfl, rfl⟩
  · rw [if_neg c2] at h
    refine rjf (a := (35, [(2, .int r1), (0, .ref 0), (1, .int x1)], [])) (b := (15, [(2, .int r1), (0, .ref 0), (1, .int x1)], [])) rfl rfl c2 ?_
    refine rsn 1 (t := (16, [(2, .int r1), (0, .ref 0), (1, .int x1)], [.ref 0])) rfl ?_
    refine pgI rfl rfl rfl (hSh.1.k 0 rfl _) ?_
    show RN xs L al (Ev xs L al d) 62 19 [(2, .int r1), (0, .ref 0), (1, .int x1)] [.int ((mI m 0 8))] (m, S) (some (.int r0)) (mf, S)
    refine rsn 1 (t := (20, [(2, .int r1), (0, .ref 0), (1, .int x1)], [.int ((-1)), .int ((mI m 0 8))])) rfl ?_
    by_cases c3 : ((mI m 0 8)) = ((-1))
    · rw [if_pos c3] at h
      refine rjf (a := (35, [(2, .int r1), (0, .ref 0), (1, .int x1)], [])) (b := (23, [(2, .int r1), (0, .ref 0), (1, .int x1)], [])) rfl rfl (fun q => q c3) ?_
      refine rsn 1 (t := (24, [(2, .int r1), (0, .ref 0), (1, .int x1)], [.ref 0])) rfl ?_
      refine rgR rfl rfl rfl (hSh.1.k 0 rfl _) (hSh.1.r 88 rfl _) ?_
      refine rsn 2 (t := (29, [(2, .int r1), (0, .ref 0), (1, .int x1)], [.int x1, .int r1, .ref 10])) rfl ?_
      obtain ⟨r4, g4, h⟩ := b1_some h
      refine rcV 50 10 [.int r1, .int x1] rfl rfl rfl (hSh.1.k 10 rfl _) (Nat.le_of_ble_eq_true rfl) rfl (e_Will_isAlt N (by omega) hSh (by decide) g4) ?_
      show RN xs L al (Ev xs L al d) 62 32 [(2, .int r1), (0, .ref 0), (1, .int x1)] [.int r4] (m, S) (some (.int r0)) (mf, S)
      by_cases c5 : r4 = 0
      · rw [if_pos c5] at h
        refine rjf (a := (37, [(2, .int r1), (0, .ref 0), (1, .int x1)], [])) (b := (35, [(2, .int r1), (0, .ref 0), (1, .int x1)], [])) rfl rfl (fun q => q c5) ?_
        refine rsn 1 (t := (36, [(2, .int r1), (0, .ref 0), (1, .int x1)], [.int ((-1))])) rfl ?_
        cases h
        exact rret rfl ⟨rfl, rfl, _, _, rfl, rfl, rfl, rfl⟩
      · rw [if_neg c5] at h
        refine rjt (a := (37, [(2, .int r1), (0, .ref 0), (1, .int x1)], [])) (b := (35, [(2, .int r1), (0, .ref 0), (1, .int x1)], [])) rfl rfl c5 ?_
        refine rsn 2 (t := (39, [(2, .int r1), (0, .ref 0), (1, .int x1)], [.ref 0, .ref 0])) rfl ?_
        refine rgR rfl rfl rfl (hSh.1.k 0 rfl _) (hSh.1.r 88 rfl _) ?_
        refine rsn 2 (t := (44, [(2, .int r1), (0, .ref 0), (1, .int x1)], [.int x1, .int r1, .ref 10, .ref 0])) rfl ?_
        obtain ⟨r6, g6, h⟩ := b1_some h
        refine rcV 64 10 [.int r1, .int x1] rfl rfl rfl (hSh.1.k 10 rfl _) (Nat.le_of_ble_eq_true rfl) rfl (e_Will_thing N (by omega) hSh (by decide) g6) ?_
        show RN xs L al (Ev xs L al d) 62 47 [(2, .int r1), (0, .ref 0), (1, .int x1)] [.int r6, .ref 0] (m, S) (some (.int r0)) (mf, S)
        refine ppI rfl rfl rfl rfl (hSh.1.k 0 rfl _) ?_
        refine rsn 2 (t := (52, [(2, .int r1), (0, .ref 0), (1, .int x1)], [.ref 0, .ref 0])) rfl ?_
        refine rgR rfl rfl rfl (hSh.1.k 0 rfl _) (hSh.1.r 88 rfl _) ?_
        refine rsn 1 (t := (56, [(2, .int r1), (0, .ref 0), (1, .int x1)], [.ref 0, .ref 10, .ref 0])) rfl ?_
        refine pgJ rfl rfl rfl (hSh.1.k 0 rfl _) ?_
        show RN xs L al (Ev xs L al d) 62 59 [(2, .int r1), (0, .ref 0), (1, .int x1)] [.long ((mJ m 0 7)), .ref 10, .ref 0] ((vI m 0 8 r6), S) (some (.int r0)) (mf, S)
        refine rsn 2 (t := (61, [(2, .int r1), (0, .ref 0), (1, .int x1)], [.int x1, .int r1, .long ((mJ m 0 7)), .ref 10, .ref 0])) rfl ?_
        obtain ⟨r7, g7, h⟩ := b1_some h
        refine rcV 65 10 [.long ((mJ m 0 7)), .int r1, .int x1] rfl rfl rfl (hSh.1.k 10 rfl _) (Nat.le_of_ble_eq_true rfl) rfl (e_Will_passed N (by omega) hSh (by decide) g7) ?_
        show RN xs L al (Ev xs L al d) 62 64 [(2, .int r1), (0, .ref 0), (1, .int x1)] [.long r7, .ref 0] ((vI m 0 8 r6), S) (some (.int r0)) (mf, S)
        refine ppJ rfl rfl rfl rfl (hSh.1.k 0 rfl _) ?_
        refine rsn 1 (t := (68, [(2, .int r1), (0, .ref 0), (1, .int x1)], [.ref 0])) rfl ?_
        refine pgJ rfl rfl rfl (hSh.1.k 0 rfl _) ?_
        show RN xs L al (Ev xs L al d) 62 71 [(2, .int r1), (0, .ref 0), (1, .int x1)] [.long r7] ((vJ (vI m 0 8 r6) 0 7 r7), S) (some (.int r0)) (mf, S)
        obtain ⟨r8, g8, h⟩ := b1_some h
        refine rcS 63 [.long r7] rfl rfl rfl (Nat.le_of_ble_eq_true rfl) rfl (e_State_dayOf N (by omega) g8) ?_
        show RN xs L al (Ev xs L al d) 62 74 [(2, .int r1), (0, .ref 0), (1, .int x1)] [.int r8] ((vJ (vI m 0 8 r6) 0 7 r7), S) (some (.int r0)) (mf, S)
        cases h
        exact rret rfl ⟨rfl, rfl, _, _, rfl, rfl, rfl, rfl⟩
    · rw [if_neg c3] at h
      refine rjt (a := (35, [(2, .int r1), (0, .ref 0), (1, .int x1)], [])) (b := (23, [(2, .int r1), (0, .ref 0), (1, .int x1)], [])) rfl rfl c3 ?_
      refine rsn 1 (t := (36, [(2, .int r1), (0, .ref 0), (1, .int x1)], [.int ((-1))])) rfl ?_
      cases h
      exact rret rfl ⟨rfl, rfl, _, _, rfl, rfl, rfl, rfl⟩
def f_Will_mayGive (N : Nat) (S : St) (x0 : Nat) (x1 : Int64) (x3 : Int32) (x4 : Int32) (m : Mm) : Option (Int32) := (if x3 = 3 then b1 (f_State_heldOf N x1) fun r6 => (if x4 ≤ r6 then some 0 else some 1) else b1 (f_Will_isHeir N S x0 x3 m) fun r2 => (if r2 = 0 then some 0 else b1 (f_State_isThere N x1 x3) fun r4 => (if r4 = 0 then some 0 else some 1)))
set_option maxRecDepth 20000 in
set_option maxHeartbeats 4000000 in
theorem e_Will_mayGive {xs : Nat → Int32} {L : Nat} {al : Bool} (N : Nat) {d : Nat} (hd : 4 ≤ d) {S : St} (hSh : ShC S) {x0 : Nat} {x1 : Int64} {x3 : Int32} {x4 : Int32} (hx0 : x0 ∈ wKl) {m : Mm} {r0 : Int32} (h : f_Will_mayGive N S x0 x1 x3 x4 m = some r0) : Ev xs L al d 67 [.ref x0, .long x1, .int x3, .int x4] (m, S) (some (.int r0)) (m, S) := by
  obtain ⟨d, rfl⟩ : ∃ e, d = e + 1 := ⟨d - 1, by omega⟩
  refine ev_of (by decide) (Nat.le_of_ble_eq_true rfl) ?_
  rw [f_Will_mayGive] at h
  show RN xs L al (Ev xs L al d) 67 0 [(0, .ref x0), (1, .long x1), (3, .int x3), (4, .int x4)] [] (m, S) (some (.int r0)) (m, S)
  refine rsn 2 (t := (2, [(0, .ref x0), (1, .long x1), (3, .int x3), (4, .int x4)], [.int 3, .int x3])) rfl ?_
  by_cases c1 : x3 = 3
  · rw [if_pos c1] at h
    refine rjf (a := (20, [(0, .ref x0), (1, .long x1), (3, .int x3), (4, .int x4)], [])) (b := (5, [(0, .ref x0), (1, .long x1), (3, .int x3), (4, .int x4)], [])) rfl rfl (fun q => q c1) ?_
    refine rsn 1 (t := (6, [(0, .ref x0), (1, .long x1), (3, .int x3), (4, .int x4)], [.long x1])) rfl ?_
    obtain ⟨r6, g6, h⟩ := b1_some h
    refine rcS 68 [.long x1] rfl rfl rfl (Nat.le_of_ble_eq_true rfl) rfl (e_State_heldOf N (by omega) g6) ?_
    show RN xs L al (Ev xs L al d) 67 9 [(0, .ref x0), (1, .long x1), (3, .int x3), (4, .int x4)] [.int r6] (m, S) (some (.int r0)) (m, S)
    refine rsn 1 (t := (11, [(0, .ref x0), (1, .long x1), (3, .int x3), (4, .int x4)], [.int x4, .int r6])) rfl ?_
    by_cases c7 : x4 ≤ r6
    · rw [if_pos c7] at h
      refine rjt (a := (18, [(0, .ref x0), (1, .long x1), (3, .int x3), (4, .int x4)], [])) (b := (14, [(0, .ref x0), (1, .long x1), (3, .int x3), (4, .int x4)], [])) rfl rfl c7 ?_
      refine rsn 1 (t := (19, [(0, .ref x0), (1, .long x1), (3, .int x3), (4, .int x4)], [.int 0])) rfl ?_
      cases h
      exact rret rfl ⟨rfl, rfl, _, _, rfl, rfl, rfl, rfl⟩
    · rw [if_neg c7] at h
      refine rjf (a := (18, [(0, .ref x0), (1, .long x1), (3, .int x3), (4, .int x4)], [])) (b := (14, [(0, .ref x0), (1, .long x1), (3, .int x3), (4, .int x4)], [])) rfl rfl c7 ?_
      refine rsn 2 (t := (19, [(0, .ref x0), (1, .long x1), (3, .int x3), (4, .int x4)], [.int 1])) rfl ?_
      cases h
      exact rret rfl ⟨rfl, rfl, _, _, rfl, rfl, rfl, rfl⟩
  · rw [if_neg c1] at h
    refine rjt (a := (20, [(0, .ref x0), (1, .long x1), (3, .int x3), (4, .int x4)], [])) (b := (5, [(0, .ref x0), (1, .long x1), (3, .int x3), (4, .int x4)], [])) rfl rfl c1 ?_
    refine rsn 2 (t := (22, [(0, .ref x0), (1, .long x1), (3, .int x3), (4, .int x4)], [.int x3, .ref x0])) rfl ?_
    obtain ⟨r2, g2, h⟩ := b1_some h
    refine rcV 53 x0 [.int x3] rfl rfl rfl (hSh.kW hx0 _) (Nat.le_of_ble_eq_true rfl) rfl (e_Will_isHeir N (by omega) hSh hx0 g2) ?_
    show RN xs L al (Ev xs L al d) 67 25 [(0, .ref x0), (1, .long x1), (3, .int x3), (4, .int x4)] [.int r2] (m, S) (some (.int r0)) (m, S)
    by_cases c3 : r2 = 0
    · rw [if_pos c3] at h
      refine rjt (a := (40, [(0, .ref x0), (1, .long x1), (3, .int x3), (4, .int x4)], [])) (b := (28, [(0, .ref x0), (1, .long x1), (3, .int x3), (4, .int x4)], [])) rfl rfl c3 ?_
      refine rsn 1 (t := (41, [(0, .ref x0), (1, .long x1), (3, .int x3), (4, .int x4)], [.int 0])) rfl ?_
      cases h
      exact rret rfl ⟨rfl, rfl, _, _, rfl, rfl, rfl, rfl⟩
    · rw [if_neg c3] at h
      refine rjf (a := (40, [(0, .ref x0), (1, .long x1), (3, .int x3), (4, .int x4)], [])) (b := (28, [(0, .ref x0), (1, .long x1), (3, .int x3), (4, .int x4)], [])) rfl rfl c3 ?_
      refine rsn 2 (t := (30, [(0, .ref x0), (1, .long x1), (3, .int x3), (4, .int x4)], [.int x3, .long x1])) rfl ?_
      obtain ⟨r4, g4, h⟩ := b1_some h
      refine rcS 54 [.long x1, .int x3] rfl rfl rfl (Nat.le_of_ble_eq_true rfl) rfl (e_State_isThere N (by omega) g4) ?_
      show RN xs L al (Ev xs L al d) 67 33 [(0, .ref x0), (1, .long x1), (3, .int x3), (4, .int x4)] [.int r4] (m, S) (some (.int r0)) (m, S)
      by_cases c5 : r4 = 0
      · rw [if_pos c5] at h
        refine rjt (a := (40, [(0, .ref x0), (1, .long x1), (3, .int x3), (4, .int x4)], [])) (b := (36, [(0, .ref x0), (1, .long x1), (3, .int x3), (4, .int x4)], [])) rfl rfl c5 ?_
        refine rsn 1 (t := (41, [(0, .ref x0), (1, .long x1), (3, .int x3), (4, .int x4)], [.int 0])) rfl ?_
        cases h
        exact rret rfl ⟨rfl, rfl, _, _, rfl, rfl, rfl, rfl⟩
      · rw [if_neg c5] at h
        refine rjf (a := (40, [(0, .ref x0), (1, .long x1), (3, .int x3), (4, .int x4)], [])) (b := (36, [(0, .ref x0), (1, .long x1), (3, .int x3), (4, .int x4)], [])) rfl rfl c5 ?_
        refine rsn 2 (t := (41, [(0, .ref x0), (1, .long x1), (3, .int x3), (4, .int x4)], [.int 1])) rfl ?_
        cases h
        exact rret rfl ⟨rfl, rfl, _, _, rfl, rfl, rfl, rfl⟩
def f_SC_give (N : Nat) (S : St) (x1 : Int32) (m : Mm) : Option (Int32 × Mm) := (if ((mI m 0 8)) = ((-1)) then some (0, m) else b1 (f_Will_mayGive N S 10 ((mJ m 0 7)) x1 ((mI m 10 2)) m) fun r2 => (if r2 = 0 then some (0, m) else b1 (f_State_with N ((mJ m 0 7)) ((mI m 0 8)) x1) fun r4 => some (1, (vI (vJ m 0 7 r4) 0 8 ((-1))))))
set_option maxRecDepth 20000 in
set_option maxHeartbeats 4000000 in
theorem e_SC_give {xs : Nat → Int32} {L : Nat} {al : Bool} (N : Nat) {d : Nat} (hd : 5 ≤ d) {S : St} (hSh : ShC S) {x1 : Int32} {m : Mm} {r0 : Int32} {mf : Mm} (h : f_SC_give N S x1 m = some (r0, mf)) : Ev xs L al d 66 [.ref 0, .int x1] (m, S) (some (.int r0)) (mf, S) := by
  obtain ⟨d, rfl⟩ : ∃ e, d = e + 1 := ⟨d - 1, by omega⟩
  refine ev_of (by decide) (Nat.le_of_ble_eq_true rfl) ?_
  rw [f_SC_give] at h
  show RN xs L al (Ev xs L al d) 66 0 [(0, .ref 0), (1, .int x1)] [] (m, S) (some (.int r0)) (mf, S)
  refine rsn 1 (t := (1, [(0, .ref 0), (1, .int x1)], [.ref 0])) rfl ?_
  refine pgI rfl rfl rfl (hSh.1.k 0 rfl _) ?_
  show RN xs L al (Ev xs L al d) 66 4 [(0, .ref 0), (1, .int x1)] [.int ((mI m 0 8))] (m, S) (some (.int r0)) (mf, S)
  refine rsn 1 (t := (5, [(0, .ref 0), (1, .int x1)], [.int ((-1)), .int ((mI m 0 8))])) rfl ?_
  by_cases c1 : ((mI m 0 8)) = ((-1))
  · rw [if_pos c1] at h
    refine rjt (a := (30, [(0, .ref 0), (1, .int x1)], [])) (b := (8, [(0, .ref 0), (1, .int x1)], [])) rfl rfl c1 ?_
    refine rsn 1 (t := (31, [(0, .ref 0), (1, .int x1)], [.int 0])) rfl ?_
    cases h
    exact rret rfl ⟨rfl, rfl, _, _, rfl, rfl, rfl, rfl⟩
  · rw [if_neg c1] at h
    refine rjf (a := (30, [(0, .ref 0), (1, .int x1)], [])) (b := (8, [(0, .ref 0), (1, .int x1)], [])) rfl rfl c1 ?_
    refine rsn 1 (t := (9, [(0, .ref 0), (1, .int x1)], [.ref 0])) rfl ?_
    refine rgR rfl rfl rfl (hSh.1.k 0 rfl _) (hSh.1.r 88 rfl _) ?_
    refine rsn 1 (t := (13, [(0, .ref 0), (1, .int x1)], [.ref 0, .ref 10])) rfl ?_
    refine pgJ rfl rfl rfl (hSh.1.k 0 rfl _) ?_
    show RN xs L al (Ev xs L al d) 66 16 [(0, .ref 0), (1, .int x1)] [.long ((mJ m 0 7)), .ref 10] (m, S) (some (.int r0)) (mf, S)
    refine rsn 2 (t := (18, [(0, .ref 0), (1, .int x1)], [.ref 0, .int x1, .long ((mJ m 0 7)), .ref 10])) rfl ?_
    refine rgR rfl rfl rfl (hSh.1.k 0 rfl _) (hSh.1.r 88 rfl _) ?_
    refine pgI rfl rfl rfl (hSh.1.k 10 rfl _) ?_
    show RN xs L al (Ev xs L al d) 66 24 [(0, .ref 0), (1, .int x1)] [.int ((mI m 10 2)), .int x1, .long ((mJ m 0 7)), .ref 10] (m, S) (some (.int r0)) (mf, S)
    obtain ⟨r2, g2, h⟩ := b1_some h
    refine rcV 67 10 [.long ((mJ m 0 7)), .int x1, .int ((mI m 10 2))] rfl rfl rfl (hSh.1.k 10 rfl _) (Nat.le_of_ble_eq_true rfl) rfl (e_Will_mayGive N (by omega) hSh (by decide) g2) ?_
    show RN xs L al (Ev xs L al d) 66 27 [(0, .ref 0), (1, .int x1)] [.int r2] (m, S) (some (.int r0)) (mf, S)
    by_cases c3 : r2 = 0
    · rw [if_pos c3] at h
      refine rjf (a := (32, [(0, .ref 0), (1, .int x1)], [])) (b := (30, [(0, .ref 0), (1, .int x1)], [])) rfl rfl (fun q => q c3) ?_
      refine rsn 1 (t := (31, [(0, .ref 0), (1, .int x1)], [.int 0])) rfl ?_
      cases h
      exact rret rfl ⟨rfl, rfl, _, _, rfl, rfl, rfl, rfl⟩
    · rw [if_neg c3] at h
      refine rjt (a := (32, [(0, .ref 0), (1, .int x1)], [])) (b := (30, [(0, .ref 0), (1, .int x1)], [])) rfl rfl c3 ?_
      refine rsn 2 (t := (34, [(0, .ref 0), (1, .int x1)], [.ref 0, .ref 0])) rfl ?_
      refine pgJ rfl rfl rfl (hSh.1.k 0 rfl _) ?_
      show RN xs L al (Ev xs L al d) 66 37 [(0, .ref 0), (1, .int x1)] [.long ((mJ m 0 7)), .ref 0] (m, S) (some (.int r0)) (mf, S)
      refine rsn 1 (t := (38, [(0, .ref 0), (1, .int x1)], [.ref 0, .long ((mJ m 0 7)), .ref 0])) rfl ?_
      refine pgI rfl rfl rfl (hSh.1.k 0 rfl _) ?_
      show RN xs L al (Ev xs L al d) 66 41 [(0, .ref 0), (1, .int x1)] [.int ((mI m 0 8)), .long ((mJ m 0 7)), .ref 0] (m, S) (some (.int r0)) (mf, S)
      refine rsn 1 (t := (42, [(0, .ref 0), (1, .int x1)], [.int x1, .int ((mI m 0 8)), .long ((mJ m 0 7)), .ref 0])) rfl ?_
      obtain ⟨r4, g4, h⟩ := b1_some h
      refine rcS 70 [.long ((mJ m 0 7)), .int ((mI m 0 8)), .int x1] rfl rfl rfl (Nat.le_of_ble_eq_true rfl) rfl (e_State_with N (by omega) g4) ?_
      show RN xs L al (Ev xs L al d) 66 45 [(0, .ref 0), (1, .int x1)] [.long r4, .ref 0] (m, S) (some (.int r0)) (mf, S)
      refine ppJ rfl rfl rfl rfl (hSh.1.k 0 rfl _) ?_
      refine rsn 2 (t := (50, [(0, .ref 0), (1, .int x1)], [.int ((-1)), .ref 0])) rfl ?_
      refine ppI rfl rfl rfl rfl (hSh.1.k 0 rfl _) ?_
      refine rsn 1 (t := (54, [(0, .ref 0), (1, .int x1)], [.int 1])) rfl ?_
      cases h
      exact rret rfl ⟨rfl, rfl, _, _, rfl, rfl, rfl, rfl⟩
def f_SC_canLookAhead (N : Nat) (S : St) (x1 : Int32) (m : Mm) : Option (Int32) := (if ((mI m 0 6)) = 0 then some 0 else b1 (f_SC_isGoal N x1) fun r2 => (if r2 = 0 then some 0 else (if ((mI m 0 8)) = ((-1)) then some 1 else some 0)))
set_option maxRecDepth 20000 in
set_option maxHeartbeats 4000000 in
theorem e_SC_canLookAhead {xs : Nat → Int32} {L : Nat} {al : Bool} (N : Nat) {d : Nat} (hd : 2 ≤ d) {S : St} (hSh : ShC S) {x1 : Int32} {m : Mm} {r0 : Int32} (h : f_SC_canLookAhead N S x1 m = some r0) : Ev xs L al d 73 [.ref 0, .int x1] (m, S) (some (.int r0)) (m, S) := by
  obtain ⟨d, rfl⟩ : ∃ e, d = e + 1 := ⟨d - 1, by omega⟩
  refine ev_of (by decide) (Nat.le_of_ble_eq_true rfl) ?_
  rw [f_SC_canLookAhead] at h
  show RN xs L al (Ev xs L al d) 73 0 [(0, .ref 0), (1, .int x1)] [] (m, S) (some (.int r0)) (m, S)
  refine rsn 1 (t := (1, [(0, .ref 0), (1, .int x1)], [.ref 0])) rfl ?_
  refine pgI rfl rfl rfl (hSh.1.k 0 rfl _) ?_
  show RN xs L al (Ev xs L al d) 73 4 [(0, .ref 0), (1, .int x1)] [.int ((mI m 0 6))] (m, S) (some (.int r0)) (m, S)
  by_cases c1 : ((mI m 0 6)) = 0
  · rw [if_pos c1] at h
    refine rjt (a := (26, [(0, .ref 0), (1, .int x1)], [])) (b := (7, [(0, .ref 0), (1, .int x1)], [])) rfl rfl c1 ?_
    refine rsn 1 (t := (27, [(0, .ref 0), (1, .int x1)], [.int 0])) rfl ?_
    cases h
    exact rret rfl ⟨rfl, rfl, _, _, rfl, rfl, rfl, rfl⟩
  · rw [if_neg c1] at h
    refine rjf (a := (26, [(0, .ref 0), (1, .int x1)], [])) (b := (7, [(0, .ref 0), (1, .int x1)], [])) rfl rfl c1 ?_
    refine rsn 1 (t := (8, [(0, .ref 0), (1, .int x1)], [.int x1])) rfl ?_
    obtain ⟨r2, g2, h⟩ := b1_some h
    refine rcS 74 [.int x1] rfl rfl rfl (Nat.le_of_ble_eq_true rfl) rfl (e_SC_isGoal N (by omega) g2) ?_
    show RN xs L al (Ev xs L al d) 73 11 [(0, .ref 0), (1, .int x1)] [.int r2] (m, S) (some (.int r0)) (m, S)
    by_cases c3 : r2 = 0
    · rw [if_pos c3] at h
      refine rjt (a := (26, [(0, .ref 0), (1, .int x1)], [])) (b := (14, [(0, .ref 0), (1, .int x1)], [])) rfl rfl c3 ?_
      refine rsn 1 (t := (27, [(0, .ref 0), (1, .int x1)], [.int 0])) rfl ?_
      cases h
      exact rret rfl ⟨rfl, rfl, _, _, rfl, rfl, rfl, rfl⟩
    · rw [if_neg c3] at h
      refine rjf (a := (26, [(0, .ref 0), (1, .int x1)], [])) (b := (14, [(0, .ref 0), (1, .int x1)], [])) rfl rfl c3 ?_
      refine rsn 1 (t := (15, [(0, .ref 0), (1, .int x1)], [.ref 0])) rfl ?_
      refine pgI rfl rfl rfl (hSh.1.k 0 rfl _) ?_
      show RN xs L al (Ev xs L al d) 73 18 [(0, .ref 0), (1, .int x1)] [.int ((mI m 0 8))] (m, S) (some (.int r0)) (m, S)
      refine rsn 1 (t := (19, [(0, .ref 0), (1, .int x1)], [.int ((-1)), .int ((mI m 0 8))])) rfl ?_
      by_cases c4 : ((mI m 0 8)) = ((-1))
      · rw [if_pos c4] at h
        refine rjf (a := (26, [(0, .ref 0), (1, .int x1)], [])) (b := (22, [(0, .ref 0), (1, .int x1)], [])) rfl rfl (fun q => q c4) ?_
        refine rsn 2 (t := (27, [(0, .ref 0), (1, .int x1)], [.int 1])) rfl ?_
        cases h
        exact rret rfl ⟨rfl, rfl, _, _, rfl, rfl, rfl, rfl⟩
      · rw [if_neg c4] at h
        refine rjt (a := (26, [(0, .ref 0), (1, .int x1)], [])) (b := (22, [(0, .ref 0), (1, .int x1)], [])) rfl rfl c4 ?_
        refine rsn 1 (t := (27, [(0, .ref 0), (1, .int x1)], [.int 0])) rfl ?_
        cases h
        exact rret rfl ⟨rfl, rfl, _, _, rfl, rfl, rfl, rfl⟩
def f_SC_daysToCome (N : Nat) (S : St) (m : Mm) : Option (Int32) := b1 (f_State_dayOf N ((mJ m 0 7))) fun r1 => some ((((mI m 10 1)) - r1))
set_option maxRecDepth 20000 in
set_option maxHeartbeats 4000000 in
theorem e_SC_daysToCome {xs : Nat → Int32} {L : Nat} {al : Bool} (N : Nat) {d : Nat} (hd : 2 ≤ d) {S : St} (hSh : ShC S) {m : Mm} {r0 : Int32} (h : f_SC_daysToCome N S m = some r0) : Ev xs L al d 75 [.ref 0] (m, S) (some (.int r0)) (m, S) := by
  obtain ⟨d, rfl⟩ : ∃ e, d = e + 1 := ⟨d - 1, by omega⟩
  refine ev_of (by decide) (Nat.le_of_ble_eq_true rfl) ?_
  rw [f_SC_daysToCome] at h
  show RN xs L al (Ev xs L al d) 75 0 [(0, .ref 0)] [] (m, S) (some (.int r0)) (m, S)
  refine rsn 1 (t := (1, [(0, .ref 0)], [.ref 0])) rfl ?_
  refine rgR rfl rfl rfl (hSh.1.k 0 rfl _) (hSh.1.r 88 rfl _) ?_
  refine pgI rfl rfl rfl (hSh.1.k 10 rfl _) ?_
  show RN xs L al (Ev xs L al d) 75 7 [(0, .ref 0)] [.int ((mI m 10 1))] (m, S) (some (.int r0)) (m, S)
  refine rsn 1 (t := (8, [(0, .ref 0)], [.ref 0, .int ((mI m 10 1))])) rfl ?_
  refine pgJ rfl rfl rfl (hSh.1.k 0 rfl _) ?_
  show RN xs L al (Ev xs L al d) 75 11 [(0, .ref 0)] [.long ((mJ m 0 7)), .int ((mI m 10 1))] (m, S) (some (.int r0)) (m, S)
  obtain ⟨r1, g1, h⟩ := b1_some h
  refine rcS 63 [.long ((mJ m 0 7))] rfl rfl rfl (Nat.le_of_ble_eq_true rfl) rfl (e_State_dayOf N (by omega) g1) ?_
  show RN xs L al (Ev xs L al d) 75 14 [(0, .ref 0)] [.int r1, .int ((mI m 10 1))] (m, S) (some (.int r0)) (m, S)
  refine rsn 1 (t := (15, [(0, .ref 0)], [.int ((((mI m 10 1)) - r1))])) rfl ?_
  cases h
  exact rret rfl ⟨rfl, rfl, _, _, rfl, rfl, rfl, rfl⟩
def f_Ranks_endPlaces (N : Nat) (S : St) (m : Mm) : Option (Int32) := ck (ix ((((mI m 18 11)) + 1)) 8) (ck (ix ((mI m 18 11)) 8) (some ((((((mX m 26 (((((mI m 18 11)) + 1)).toNatClampNeg))) - ((mX m 26 (((mI m 18 11)).toNatClampNeg))))) * ((mI m 18 10))))))
set_option maxRecDepth 20000 in
set_option maxHeartbeats 4000000 in
theorem e_Ranks_endPlaces {xs : Nat → Int32} {L : Nat} {al : Bool} (N : Nat) {d : Nat} (hd : 1 ≤ d) {S : St} (hSh : ShC S) {m : Mm} {r0 : Int32} (h : f_Ranks_endPlaces N S m = some r0) : Ev xs L al d 77 [.ref 18] (m, S) (some (.int r0)) (m, S) := by
  obtain ⟨d, rfl⟩ : ∃ e, d = e + 1 := ⟨d - 1, by omega⟩
  refine ev_of (by decide) (Nat.le_of_ble_eq_true rfl) ?_
  rw [f_Ranks_endPlaces] at h
  show RN xs L al (Ev xs L al d) 77 0 [(0, .ref 18)] [] (m, S) (some (.int r0)) (m, S)
  refine rsn 1 (t := (1, [(0, .ref 18)], [.ref 18])) rfl ?_
  refine rgR rfl rfl rfl (hSh.1.k 18 rfl _) (hSh.1.r 19 rfl _) ?_
  refine rsn 1 (t := (5, [(0, .ref 18)], [.ref 18, .ref 26])) rfl ?_
  refine pgI rfl rfl rfl (hSh.1.k 18 rfl _) ?_
  show RN xs L al (Ev xs L al d) 77 8 [(0, .ref 18)] [.int ((mI m 18 11)), .ref 26] (m, S) (some (.int r0)) (m, S)
  refine rsn 2 (t := (10, [(0, .ref 18)], [.int ((((mI m 18 11)) + 1)), .ref 26])) rfl ?_
  obtain ⟨c1, h⟩ := ck_some h
  refine pxI rfl (hSh.1.k 26 rfl _) (hSh.1.l 20 rfl _) c1 ?_
  show RN xs L al (Ev xs L al d) 77 11 [(0, .ref 18)] [.int ((mX m 26 (((((mI m 18 11)) + 1)).toNatClampNeg)))] (m, S) (some (.int r0)) (m, S)
  refine rsn 1 (t := (12, [(0, .ref 18)], [.ref 18, .int ((mX m 26 (((((mI m 18 11)) + 1)).toNatClampNeg)))])) rfl ?_
  refine rgR rfl rfl rfl (hSh.1.k 18 rfl _) (hSh.1.r 19 rfl _) ?_
  refine rsn 1 (t := (16, [(0, .ref 18)], [.ref 18, .ref 26, .int ((mX m 26 (((((mI m 18 11)) + 1)).toNatClampNeg)))])) rfl ?_
  refine pgI rfl rfl rfl (hSh.1.k 18 rfl _) ?_
  show RN xs L al (Ev xs L al d) 77 19 [(0, .ref 18)] [.int ((mI m 18 11)), .ref 26, .int ((mX m 26 (((((mI m 18 11)) + 1)).toNatClampNeg)))] (m, S) (some (.int r0)) (m, S)
  obtain ⟨c2, h⟩ := ck_some h
  refine pxI rfl (hSh.1.k 26 rfl _) (hSh.1.l 20 rfl _) c2 ?_
  show RN xs L al (Ev xs L al d) 77 20 [(0, .ref 18)] [.int ((mX m 26 (((mI m 18 11)).toNatClampNeg))), .int ((mX m 26 (((((mI m 18 11)) + 1)).toNatClampNeg)))] (m, S) (some (.int r0)) (m, S)
  refine rsn 2 (t := (22, [(0, .ref 18)], [.ref 18, .int ((((mX m 26 (((((mI m 18 11)) + 1)).toNatClampNeg))) - ((mX m 26 (((mI m 18 11)).toNatClampNeg)))))])) rfl ?_
  refine pgI rfl rfl rfl (hSh.1.k 18 rfl _) ?_
  show RN xs L al (Ev xs L al d) 77 25 [(0, .ref 18)] [.int ((mI m 18 10)), .int ((((mX m 26 (((((mI m 18 11)) + 1)).toNatClampNeg))) - ((mX m 26 (((mI m 18 11)).toNatClampNeg)))))] (m, S) (some (.int r0)) (m, S)
  refine rsn 1 (t := (26, [(0, .ref 18)], [.int ((((((mX m 26 (((((mI m 18 11)) + 1)).toNatClampNeg))) - ((mX m 26 (((mI m 18 11)).toNatClampNeg))))) * ((mI m 18 10))))])) rfl ?_
  cases h
  exact rret rfl ⟨rfl, rfl, _, _, rfl, rfl, rfl, rfl⟩
def f_Arrays_fill2_L6 (N : Nat) (S : St) (x0 : Nat) (x1 : Int64) (x4 : Int32) (k6 : Int32 → Mm → Option (Mm)) : Nat → Int32 → Mm → Option (Mm)
  | 0, _, _ => none
  | n6 + 1, x3, m => f_Arrays_fill2_L6 N S x0 x1 x4 k6 n6 x3 m
def f_Arrays_fill2 (N : Nat) (S : St) (x0 : Nat) (x1 : Int64) (m : Mm) : Option (Mm) := f_Arrays_fill2_L6 N S x0 x1 ((Int32.ofNat ((S.2.2.1 x0)))) (fun (z1_3 : Int32) (m1 : Mm) => some m1) N 0 m
set_option maxRecDepth 20000 in
set_option maxHeartbeats 4000000 in
theorem e_Arrays_fill2 {xs : Nat → Int32} {L : Nat} {al : Bool} (N : Nat) {d : Nat} (hd : 1 ≤ d) {S : St} (hSh : ShC S) {x0 : Nat} {x1 : Int64} (hx0 : ∀ m : Mm, Kd (m, S) x0 13) {m : Mm} {mf : Mm} (h : f_Arrays_fill2 N S x0 x1 m = some mf) : Ev xs L al d 79 [.ref x0, .long x1] (m, S) none (mf, S) := by
  obtain ⟨d, rfl⟩ : ∃ e, d = e + 1 := ⟨d - 1, by omega⟩
  refine ev_of (by decide) (Nat.le_of_ble_eq_true rfl) ?_
  rw [f_Arrays_fill2] at h
  show RN xs L al (Ev xs L al d) 79 0 [(0, .ref x0), (1, .long x1)] [] (m, S) none (mf, S)
  refine rsn 3 (t := (3, [(3, .int 0), (0, .ref x0), (1, .long x1)], [.ref x0])) rfl ?_
  refine rxL rfl (hx0 _) (by decide) rfl ?_
  show RN xs L al (Ev xs L al d) 79 4 [(3, .int 0), (0, .ref x0), (1, .long x1)] [.int ((Int32.ofNat ((S.2.2.1 x0))))] (m, S) none (mf, S)
  refine rsn 1 (t := (6, [(4, .int ((Int32.ofNat ((S.2.2.1 x0))))), (3, .int 0), (0, .ref x0), (1, .long x1)], [])) rfl ?_
  have ex6 : ∀ (z1_3 : Int32) (m1 : Mm), (some m1) = some mf → RN xs L al (Ev xs L al d) 79 22 [] [] (m1, S) none (mf, S) := by
    intro z1_3 m1 h
    try dsimp only at h
    cases h
    exact rret rfl ⟨rfl, rfl, rfl, rfl, rfl⟩
  have lp6 : ∀ (n : Nat) (y2_3 : Int32) (m2 : Mm), (f_Arrays_fill2_L6 N S x0 x1 ((Int32.ofNat ((S.2.2.1 x0)))) (fun (z1_3 : Int32) (m1 : Mm) => some m1) n y2_3 m2) = some mf → RN xs L al (Ev xs L al d) 79 6 [(0, .ref x0), (1, .long x1), (3, .int y2_3), (4, .int ((Int32.ofNat ((S.2.2.1 x0)))))] [] (m2, S) none (mf, S) := by
    intro n
    induction n with
    | zero => intro y2_3 m2 h; exact absurd h (by simp [f_Arrays_fill2_L6])
    | succ n6 ih6 =>
      intro y2_3 m2 h
      try dsimp only at h
      rw [f_Arrays_fill2_L6] at h
      try dsimp only at h
      exact rsub [(0, .ref x0), (1, .long x1), (3, .int y2_3), (4, .int ((Int32.ofNat ((S.2.2.1 x0)))))] ⟨rfl, ⟨rfl, ⟨rfl, ⟨rfl, trivial⟩⟩⟩⟩ ⟨rfl, ⟨rfl, ⟨rfl, ⟨rfl, trivial⟩⟩⟩⟩ (ih6 y2_3 m2 h)
  exact rsub [(0, .ref x0), (1, .long x1), (3, .int 0), (4, .int ((Int32.ofNat ((S.2.2.1 x0)))))] ⟨rfl, ⟨rfl, ⟨rfl, ⟨rfl, trivial⟩⟩⟩⟩ ⟨rfl, ⟨rfl, ⟨rfl, ⟨rfl, trivial⟩⟩⟩⟩ (lp6 N 0 m h)
def f_Ranks_cellPlace (N : Nat) (S : St) (x1 : Int64) (x3 : Int32) (m : Mm) : Option (Int32) := ck (ix ((x1.toInt32 &&& 4095)) 4096) (ck (ix (((((lus x1 12)).toInt32) &&& 4095)) 4096) (ck (ix (((((lus x1 24)).toInt32) &&& 4095)) 4096) ((if ((mX m 19 (((x1.toInt32 &&& 4095)).toNatClampNeg))) < 0 then some ((-1)) else (if ((mX m 19 ((((((lus x1 12)).toInt32) &&& 4095)).toNatClampNeg))) < 0 then some ((-1)) else (if ((mX m 19 ((((((lus x1 24)).toInt32) &&& 4095)).toNatClampNeg))) < 0 then some ((-1)) else ck (ix ((mX m 19 (((x1.toInt32 &&& 4095)).toNatClampNeg))) 210) (ck (ix ((mX m 19 ((((((lus x1 12)).toInt32) &&& 4095)).toNatClampNeg))) 210) (ck (ix ((mX m 19 ((((((lus x1 24)).toInt32) &&& 4095)).toNatClampNeg))) 210) ((if ((((((mX m 20 (((mX m 19 (((x1.toInt32 &&& 4095)).toNatClampNeg))).toNatClampNeg))) + ((mX m 20 (((mX m 19 ((((((lus x1 12)).toInt32) &&& 4095)).toNatClampNeg))).toNatClampNeg))))) + ((mX m 20 (((mX m 19 ((((((lus x1 24)).toInt32) &&& 4095)).toNatClampNeg))).toNatClampNeg))))) ≤ x3 then ck (ix ((((x3 * 210)) + ((mX m 19 (((x1.toInt32 &&& 4095)).toNatClampNeg))))) 1470) (ck (ix ((mX m 19 (((x1.toInt32 &&& 4095)).toNatClampNeg))) 210) (ck (ix ((((((x3 - ((mX m 20 (((mX m 19 (((x1.toInt32 &&& 4095)).toNatClampNeg))).toNatClampNeg))))) * 210)) + ((mX m 19 ((((((lus x1 12)).toInt32) &&& 4095)).toNatClampNeg))))) 1470) (some ((((((mX m 23 (((((x3 * 210)) + ((mX m 19 (((x1.toInt32 &&& 4095)).toNatClampNeg))))).toNatClampNeg))) + ((mX m 22 (((((((x3 - ((mX m 20 (((mX m 19 (((x1.toInt32 &&& 4095)).toNatClampNeg))).toNatClampNeg))))) * 210)) + ((mX m 19 ((((((lus x1 12)).toInt32) &&& 4095)).toNatClampNeg))))).toNatClampNeg))))) + ((mX m 19 ((((((lus x1 24)).toInt32) &&& 4095)).toNatClampNeg)))))))) else some ((-1))))))))))))
set_option maxRecDepth 20000 in
set_option maxHeartbeats 4000000 in
theorem e_Ranks_cellPlace {xs : Nat → Int32} {L : Nat} {al : Bool} (N : Nat) {d : Nat} (hd : 1 ≤ d) {S : St} (hSh : ShC S) {x1 : Int64} {x3 : Int32} {m : Mm} {r0 : Int32} (h : f_Ranks_cellPlace N S x1 x3 m = some r0) : Ev xs L al d 82 [.ref 18, .long x1, .int x3] (m, S) (some (.int r0)) (m, S) := by
  obtain ⟨d, rfl⟩ : ∃ e, d = e + 1 := ⟨d - 1, by omega⟩
  refine ev_of (by decide) (Nat.le_of_ble_eq_true rfl) ?_
  rw [f_Ranks_cellPlace] at h
  show RN xs L al (Ev xs L al d) 82 0 [(0, .ref 18), (1, .long x1), (3, .int x3)] [] (m, S) (some (.int r0)) (m, S)
  refine rsn 1 (t := (1, [(0, .ref 18), (1, .long x1), (3, .int x3)], [.ref 18])) rfl ?_
  refine rgR rfl rfl rfl (hSh.1.k 18 rfl _) (hSh.1.r 12 rfl _) ?_
  refine rsn 4 (t := (10, [(0, .ref 18), (1, .long x1), (3, .int x3)], [.int ((x1.toInt32 &&& 4095)), .ref 19])) rfl ?_
  obtain ⟨c1, h⟩ := ck_some h
  refine pxI rfl (hSh.1.k 19 rfl _) (hSh.1.l 13 rfl _) c1 ?_
  show RN xs L al (Ev xs L al d) 82 11 [(0, .ref 18), (1, .long x1), (3, .int x3)] [.int ((mX m 19 (((x1.toInt32 &&& 4095)).toNatClampNeg)))] (m, S) (some (.int r0)) (m, S)
  refine rsn 2 (t := (14, [(4, .int ((mX m 19 (((x1.toInt32 &&& 4095)).toNatClampNeg)))), (0, .ref 18), (1, .long x1), (3, .int x3)], [.ref 18])) rfl ?_
  refine rgR rfl rfl rfl (hSh.1.k 18 rfl _) (hSh.1.r 12 rfl _) ?_
  refine rsn 6 (t := (26, [(4, .int ((mX m 19 (((x1.toInt32 &&& 4095)).toNatClampNeg)))), (0, .ref 18), (1, .long x1), (3, .int x3)], [.int (((((lus x1 12)).toInt32) &&& 4095)), .ref 19])) rfl ?_
  obtain ⟨c2, h⟩ := ck_some h
  refine pxI rfl (hSh.1.k 19 rfl _) (hSh.1.l 13 rfl _) c2 ?_
  show RN xs L al (Ev xs L al d) 82 27 [(4, .int ((mX m 19 (((x1.toInt32 &&& 4095)).toNatClampNeg)))), (0, .ref 18), (1, .long x1), (3, .int x3)] [.int ((mX m 19 ((((((lus x1 12)).toInt32) &&& 4095)).toNatClampNeg)))] (m, S) (some (.int r0)) (m, S)
  refine rsn 2 (t := (30, [(5, .int ((mX m 19 ((((((lus x1 12)).toInt32) &&& 4095)).toNatClampNeg)))), (4, .int ((mX m 19 (((x1.toInt32 &&& 4095)).toNatClampNeg)))), (0, .ref 18), (1, .long x1), (3, .int x3)], [.ref 18])) rfl ?_
  refine rgR rfl rfl rfl (hSh.1.k 18 rfl _) (hSh.1.r 12 rfl _) ?_
  refine rsn 6 (t := (42, [(5, .int ((mX m 19 ((((((lus x1 12)).toInt32) &&& 4095)).toNatClampNeg)))), (4, .int ((mX m 19 (((x1.toInt32 &&& 4095)).toNatClampNeg)))), (0, .ref 18), (1, .long x1), (3, .int x3)], [.int (((((lus x1 24)).toInt32) &&& 4095)), .ref 19])) rfl ?_
  obtain ⟨c3, h⟩ := ck_some h
  refine pxI rfl (hSh.1.k 19 rfl _) (hSh.1.l 13 rfl _) c3 ?_
  show RN xs L al (Ev xs L al d) 82 43 [(5, .int ((mX m 19 ((((((lus x1 12)).toInt32) &&& 4095)).toNatClampNeg)))), (4, .int ((mX m 19 (((x1.toInt32 &&& 4095)).toNatClampNeg)))), (0, .ref 18), (1, .long x1), (3, .int x3)] [.int ((mX m 19 ((((((lus x1 24)).toInt32) &&& 4095)).toNatClampNeg)))] (m, S) (some (.int r0)) (m, S)
  refine rsn 2 (t := (47, [(6, .int ((mX m 19 ((((((lus x1 24)).toInt32) &&& 4095)).toNatClampNeg)))), (5, .int ((mX m 19 ((((((lus x1 12)).toInt32) &&& 4095)).toNatClampNeg)))), (4, .int ((mX m 19 (((x1.toInt32 &&& 4095)).toNatClampNeg)))), (0, .ref 18), (1, .long x1), (3, .int x3)], [.int ((mX m 19 (((x1.toInt32 &&& 4095)).toNatClampNeg)))])) rfl ?_
  by_cases c4 : ((mX m 19 (((x1.toInt32 &&& 4095)).toNatClampNeg))) < 0
  · rw [if_pos c4] at h
    refine rjt (a := (87, [(6, .int ((mX m 19 ((((((lus x1 24)).toInt32) &&& 4095)).toNatClampNeg)))), (5, .int ((mX m 19 ((((((lus x1 12)).toInt32) &&& 4095)).toNatClampNeg)))), (4, .int ((mX m 19 (((x1.toInt32 &&& 4095)).toNatClampNeg)))), (0, .ref 18), (1, .long x1), (3, .int x3)], [])) (b := (50, [(6, .int ((mX m 19 ((((((lus x1 24)).toInt32) &&& 4095)).toNatClampNeg)))), (5, .int ((mX m 19 ((((((lus x1 12)).toInt32) &&& 4095)).toNatClampNeg)))), (4, .int ((mX m 19 (((x1.toInt32 &&& 4095)).toNatClampNeg)))), (0, .ref 18), (1, .long x1), (3, .int x3)], [])) rfl rfl c4 ?_
    refine rsn 1 (t := (88, [(6, .int ((mX m 19 ((((((lus x1 24)).toInt32) &&& 4095)).toNatClampNeg)))), (5, .int ((mX m 19 ((((((lus x1 12)).toInt32) &&& 4095)).toNatClampNeg)))), (4, .int ((mX m 19 (((x1.toInt32 &&& 4095)).toNatClampNeg)))), (0, .ref 18), (1, .long x1), (3, .int x3)], [.int ((-1))])) rfl ?_
    cases h
    exact rret rfl ⟨rfl, rfl, _, _, rfl, rfl, rfl, rfl⟩
  · rw [if_neg c4] at h
    refine rjf (a := (87, [(6, .int ((mX m 19 ((((((lus x1 24)).toInt32) &&& 4095)).toNatClampNeg)))), (5, .int ((mX m 19 ((((((lus x1 12)).toInt32) &&& 4095)).toNatClampNeg)))), (4, .int ((mX m 19 (((x1.toInt32 &&& 4095)).toNatClampNeg)))), (0, .ref 18), (1, .long x1), (3, .int x3)], [])) (b := (50, [(6, .int ((mX m 19 ((((((lus x1 24)).toInt32) &&& 4095)).toNatClampNeg)))), (5, .int ((mX m 19 ((((((lus x1 12)).toInt32) &&& 4095)).toNatClampNeg)))), (4, .int ((mX m 19 (((x1.toInt32 &&& 4095)).toNatClampNeg)))), (0, .ref 18), (1, .long x1), (3, .int x3)], [])) rfl rfl c4 ?_
    refine rsn 1 (t := (52, [(6, .int ((mX m 19 ((((((lus x1 24)).toInt32) &&& 4095)).toNatClampNeg)))), (5, .int ((mX m 19 ((((((lus x1 12)).toInt32) &&& 4095)).toNatClampNeg)))), (4, .int ((mX m 19 (((x1.toInt32 &&& 4095)).toNatClampNeg)))), (0, .ref 18), (1, .long x1), (3, .int x3)], [.int ((mX m 19 ((((((lus x1 12)).toInt32) &&& 4095)).toNatClampNeg)))])) rfl ?_
    by_cases c5 : ((mX m 19 ((((((lus x1 12)).toInt32) &&& 4095)).toNatClampNeg))) < 0
    · rw [if_pos c5] at h
      refine rjt (a := (87, [(6, .int ((mX m 19 ((((((lus x1 24)).toInt32) &&& 4095)).toNatClampNeg)))), (5, .int ((mX m 19 ((((((lus x1 12)).toInt32) &&& 4095)).toNatClampNeg)))), (4, .int ((mX m 19 (((x1.toInt32 &&& 4095)).toNatClampNeg)))), (0, .ref 18), (1, .long x1), (3, .int x3)], [])) (b := (55, [(6, .int ((mX m 19 ((((((lus x1 24)).toInt32) &&& 4095)).toNatClampNeg)))), (5, .int ((mX m 19 ((((((lus x1 12)).toInt32) &&& 4095)).toNatClampNeg)))), (4, .int ((mX m 19 (((x1.toInt32 &&& 4095)).toNatClampNeg)))), (0, .ref 18), (1, .long x1), (3, .int x3)], [])) rfl rfl c5 ?_
      refine rsn 1 (t := (88, [(6, .int ((mX m 19 ((((((lus x1 24)).toInt32) &&& 4095)).toNatClampNeg)))), (5, .int ((mX m 19 ((((((lus x1 12)).toInt32) &&& 4095)).toNatClampNeg)))), (4, .int ((mX m 19 (((x1.toInt32 &&& 4095)).toNatClampNeg)))), (0, .ref 18), (1, .long x1), (3, .int x3)], [.int ((-1))])) rfl ?_
      cases h
      exact rret rfl ⟨rfl, rfl, _, _, rfl, rfl, rfl, rfl⟩
    · rw [if_neg c5] at h
      refine rjf (a := (87, [(6, .int ((mX m 19 ((((((lus x1 24)).toInt32) &&& 4095)).toNatClampNeg)))), (5, .int ((mX m 19 ((((((lus x1 12)).toInt32) &&& 4095)).toNatClampNeg)))), (4, .int ((mX m 19 (((x1.toInt32 &&& 4095)).toNatClampNeg)))), (0, .ref 18), (1, .long x1), (3, .int x3)], [])) (b := (55, [(6, .int ((mX m 19 ((((((lus x1 24)).toInt32) &&& 4095)).toNatClampNeg)))), (5, .int ((mX m 19 ((((((lus x1 12)).toInt32) &&& 4095)).toNatClampNeg)))), (4, .int ((mX m 19 (((x1.toInt32 &&& 4095)).toNatClampNeg)))), (0, .ref 18), (1, .long x1), (3, .int x3)], [])) rfl rfl c5 ?_
      refine rsn 1 (t := (57, [(6, .int ((mX m 19 ((((((lus x1 24)).toInt32) &&& 4095)).toNatClampNeg)))), (5, .int ((mX m 19 ((((((lus x1 12)).toInt32) &&& 4095)).toNatClampNeg)))), (4, .int ((mX m 19 (((x1.toInt32 &&& 4095)).toNatClampNeg)))), (0, .ref 18), (1, .long x1), (3, .int x3)], [.int ((mX m 19 ((((((lus x1 24)).toInt32) &&& 4095)).toNatClampNeg)))])) rfl ?_
      by_cases c6 : ((mX m 19 ((((((lus x1 24)).toInt32) &&& 4095)).toNatClampNeg))) < 0
      · rw [if_pos c6] at h
        refine rjt (a := (87, [(6, .int ((mX m 19 ((((((lus x1 24)).toInt32) &&& 4095)).toNatClampNeg)))), (5, .int ((mX m 19 ((((((lus x1 12)).toInt32) &&& 4095)).toNatClampNeg)))), (4, .int ((mX m 19 (((x1.toInt32 &&& 4095)).toNatClampNeg)))), (0, .ref 18), (1, .long x1), (3, .int x3)], [])) (b := (60, [(6, .int ((mX m 19 ((((((lus x1 24)).toInt32) &&& 4095)).toNatClampNeg)))), (5, .int ((mX m 19 ((((((lus x1 12)).toInt32) &&& 4095)).toNatClampNeg)))), (4, .int ((mX m 19 (((x1.toInt32 &&& 4095)).toNatClampNeg)))), (0, .ref 18), (1, .long x1), (3, .int x3)], [])) rfl rfl c6 ?_
        refine rsn 1 (t := (88, [(6, .int ((mX m 19 ((((((lus x1 24)).toInt32) &&& 4095)).toNatClampNeg)))), (5, .int ((mX m 19 ((((((lus x1 12)).toInt32) &&& 4095)).toNatClampNeg)))), (4, .int ((mX m 19 (((x1.toInt32 &&& 4095)).toNatClampNeg)))), (0, .ref 18), (1, .long x1), (3, .int x3)], [.int ((-1))])) rfl ?_
        cases h
        exact rret rfl ⟨rfl, rfl, _, _, rfl, rfl, rfl, rfl⟩
      · rw [if_neg c6] at h
        refine rjf (a := (87, [(6, .int ((mX m 19 ((((((lus x1 24)).toInt32) &&& 4095)).toNatClampNeg)))), (5, .int ((mX m 19 ((((((lus x1 12)).toInt32) &&& 4095)).toNatClampNeg)))), (4, .int ((mX m 19 (((x1.toInt32 &&& 4095)).toNatClampNeg)))), (0, .ref 18), (1, .long x1), (3, .int x3)], [])) (b := (60, [(6, .int ((mX m 19 ((((((lus x1 24)).toInt32) &&& 4095)).toNatClampNeg)))), (5, .int ((mX m 19 ((((((lus x1 12)).toInt32) &&& 4095)).toNatClampNeg)))), (4, .int ((mX m 19 (((x1.toInt32 &&& 4095)).toNatClampNeg)))), (0, .ref 18), (1, .long x1), (3, .int x3)], [])) rfl rfl c6 ?_
        refine rsn 1 (t := (61, [(6, .int ((mX m 19 ((((((lus x1 24)).toInt32) &&& 4095)).toNatClampNeg)))), (5, .int ((mX m 19 ((((((lus x1 12)).toInt32) &&& 4095)).toNatClampNeg)))), (4, .int ((mX m 19 (((x1.toInt32 &&& 4095)).toNatClampNeg)))), (0, .ref 18), (1, .long x1), (3, .int x3)], [.ref 18])) rfl ?_
        refine rgR rfl rfl rfl (hSh.1.k 18 rfl _) (hSh.1.r 13 rfl _) ?_
        refine rsn 1 (t := (66, [(6, .int ((mX m 19 ((((((lus x1 24)).toInt32) &&& 4095)).toNatClampNeg)))), (5, .int ((mX m 19 ((((((lus x1 12)).toInt32) &&& 4095)).toNatClampNeg)))), (4, .int ((mX m 19 (((x1.toInt32 &&& 4095)).toNatClampNeg)))), (0, .ref 18), (1, .long x1), (3, .int x3)], [.int ((mX m 19 (((x1.toInt32 &&& 4095)).toNatClampNeg))), .ref 20])) rfl ?_
        obtain ⟨c7, h⟩ := ck_some h
        refine pxI rfl (hSh.1.k 20 rfl _) (hSh.1.l 14 rfl _) c7 ?_
        show RN xs L al (Ev xs L al d) 82 67 [(6, .int ((mX m 19 ((((((lus x1 24)).toInt32) &&& 4095)).toNatClampNeg)))), (5, .int ((mX m 19 ((((((lus x1 12)).toInt32) &&& 4095)).toNatClampNeg)))), (4, .int ((mX m 19 (((x1.toInt32 &&& 4095)).toNatClampNeg)))), (0, .ref 18), (1, .long x1), (3, .int x3)] [.int ((mX m 20 (((mX m 19 (((x1.toInt32 &&& 4095)).toNatClampNeg))).toNatClampNeg)))] (m, S) (some (.int r0)) (m, S)
        refine rsn 1 (t := (68, [(6, .int ((mX m 19 ((((((lus x1 24)).toInt32) &&& 4095)).toNatClampNeg)))), (5, .int ((mX m 19 ((((((lus x1 12)).toInt32) &&& 4095)).toNatClampNeg)))), (4, .int ((mX m 19 (((x1.toInt32 &&& 4095)).toNatClampNeg)))), (0, .ref 18), (1, .long x1), (3, .int x3)], [.ref 18, .int ((mX m 20 (((mX m 19 (((x1.toInt32 &&& 4095)).toNatClampNeg))).toNatClampNeg)))])) rfl ?_
        refine rgR rfl rfl rfl (hSh.1.k 18 rfl _) (hSh.1.r 13 rfl _) ?_
        refine rsn 1 (t := (73, [(6, .int ((mX m 19 ((((((lus x1 24)).toInt32) &&& 4095)).toNatClampNeg)))), (5, .int ((mX m 19 ((((((lus x1 12)).toInt32) &&& 4095)).toNatClampNeg)))), (4, .int ((mX m 19 (((x1.toInt32 &&& 4095)).toNatClampNeg)))), (0, .ref 18), (1, .long x1), (3, .int x3)], [.int ((mX m 19 ((((((lus x1 12)).toInt32) &&& 4095)).toNatClampNeg))), .ref 20, .int ((mX m 20 (((mX m 19 (((x1.toInt32 &&& 4095)).toNatClampNeg))).toNatClampNeg)))])) rfl ?_
        obtain ⟨c8, h⟩ := ck_some h
        refine pxI rfl (hSh.1.k 20 rfl _) (hSh.1.l 14 rfl _) c8 ?_
        show RN xs L al (Ev xs L al d) 82 74 [(6, .int ((mX m 19 ((((((lus x1 24)).toInt32) &&& 4095)).toNatClampNeg)))), (5, .int ((mX m 19 ((((((lus x1 12)).toInt32) &&& 4095)).toNatClampNeg)))), (4, .int ((mX m 19 (((x1.toInt32 &&& 4095)).toNatClampNeg)))), (0, .ref 18), (1, .long x1), (3, .int x3)] [.int ((mX m 20 (((mX m 19 ((((((lus x1 12)).toInt32) &&& 4095)).toNatClampNeg))).toNatClampNeg))), .int ((mX m 20 (((mX m 19 (((x1.toInt32 &&& 4095)).toNatClampNeg))).toNatClampNeg)))] (m, S) (some (.int r0)) (m, S)
        refine rsn 2 (t := (76, [(6, .int ((mX m 19 ((((((lus x1 24)).toInt32) &&& 4095)).toNatClampNeg)))), (5, .int ((mX m 19 ((((((lus x1 12)).toInt32) &&& 4095)).toNatClampNeg)))), (4, .int ((mX m 19 (((x1.toInt32 &&& 4095)).toNatClampNeg)))), (0, .ref 18), (1, .long x1), (3, .int x3)], [.ref 18, .int ((((mX m 20 (((mX m 19 (((x1.toInt32 &&& 4095)).toNatClampNeg))).toNatClampNeg))) + ((mX m 20 (((mX m 19 ((((((lus x1 12)).toInt32) &&& 4095)).toNatClampNeg))).toNatClampNeg)))))])) rfl ?_
        refine rgR rfl rfl rfl (hSh.1.k 18 rfl _) (hSh.1.r 13 rfl _) ?_
        refine rsn 1 (t := (81, [(6, .int ((mX m 19 ((((((lus x1 24)).toInt32) &&& 4095)).toNatClampNeg)))), (5, .int ((mX m 19 ((((((lus x1 12)).toInt32) &&& 4095)).toNatClampNeg)))), (4, .int ((mX m 19 (((x1.toInt32 &&& 4095)).toNatClampNeg)))), (0, .ref 18), (1, .long x1), (3, .int x3)], [.int ((mX m 19 ((((((lus x1 24)).toInt32) &&& 4095)).toNatClampNeg))), .ref 20, .int ((((mX m 20 (((mX m 19 (((x1.toInt32 &&& 4095)).toNatClampNeg))).toNatClampNeg))) + ((mX m 20 (((mX m 19 ((((((lus x1 12)).toInt32) &&& 4095)).toNatClampNeg))).toNatClampNeg)))))])) rfl ?_
        obtain ⟨c9, h⟩ := ck_some h
        refine pxI rfl (hSh.1.k 20 rfl _) (hSh.1.l 14 rfl _) c9 ?_
        show RN xs L al (Ev xs L al d) 82 82 [(6, .int ((mX m 19 ((((((lus x1 24)).toInt32) &&& 4095)).toNatClampNeg)))), (5, .int ((mX m 19 ((((((lus x1 12)).toInt32) &&& 4095)).toNatClampNeg)))), (4, .int ((mX m 19 (((x1.toInt32 &&& 4095)).toNatClampNeg)))), (0, .ref 18), (1, .long x1), (3, .int x3)] [.int ((mX m 20 (((mX m 19 ((((((lus x1 24)).toInt32) &&& 4095)).toNatClampNeg))).toNatClampNeg))), .int ((((mX m 20 (((mX m 19 (((x1.toInt32 &&& 4095)).toNatClampNeg))).toNatClampNeg))) + ((mX m 20 (((mX m 19 ((((((lus x1 12)).toInt32) &&& 4095)).toNatClampNeg))).toNatClampNeg)))))] (m, S) (some (.int r0)) (m, S)
        refine rsn 2 (t := (84, [(6, .int ((mX m 19 ((((((lus x1 24)).toInt32) &&& 4095)).toNatClampNeg)))), (5, .int ((mX m 19 ((((((lus x1 12)).toInt32) &&& 4095)).toNatClampNeg)))), (4, .int ((mX m 19 (((x1.toInt32 &&& 4095)).toNatClampNeg)))), (0, .ref 18), (1, .long x1), (3, .int x3)], [.int x3, .int ((((((mX m 20 (((mX m 19 (((x1.toInt32 &&& 4095)).toNatClampNeg))).toNatClampNeg))) + ((mX m 20 (((mX m 19 ((((((lus x1 12)).toInt32) &&& 4095)).toNatClampNeg))).toNatClampNeg))))) + ((mX m 20 (((mX m 19 ((((((lus x1 24)).toInt32) &&& 4095)).toNatClampNeg))).toNatClampNeg)))))])) rfl ?_
        by_cases c10 : ((((((mX m 20 (((mX m 19 (((x1.toInt32 &&& 4095)).toNatClampNeg))).toNatClampNeg))) + ((mX m 20 (((mX m 19 ((((((lus x1 12)).toInt32) &&& 4095)).toNatClampNeg))).toNatClampNeg))))) + ((mX m 20 (((mX m 19 ((((((lus x1 24)).toInt32) &&& 4095)).toNatClampNeg))).toNatClampNeg))))) ≤ x3
        · rw [if_pos c10] at h
          refine rjt (a := (89, [(6, .int ((mX m 19 ((((((lus x1 24)).toInt32) &&& 4095)).toNatClampNeg)))), (5, .int ((mX m 19 ((((((lus x1 12)).toInt32) &&& 4095)).toNatClampNeg)))), (4, .int ((mX m 19 (((x1.toInt32 &&& 4095)).toNatClampNeg)))), (0, .ref 18), (1, .long x1), (3, .int x3)], [])) (b := (87, [(6, .int ((mX m 19 ((((((lus x1 24)).toInt32) &&& 4095)).toNatClampNeg)))), (5, .int ((mX m 19 ((((((lus x1 12)).toInt32) &&& 4095)).toNatClampNeg)))), (4, .int ((mX m 19 (((x1.toInt32 &&& 4095)).toNatClampNeg)))), (0, .ref 18), (1, .long x1), (3, .int x3)], [])) rfl rfl c10 ?_
          refine rsn 1 (t := (90, [(6, .int ((mX m 19 ((((((lus x1 24)).toInt32) &&& 4095)).toNatClampNeg)))), (5, .int ((mX m 19 ((((((lus x1 12)).toInt32) &&& 4095)).toNatClampNeg)))), (4, .int ((mX m 19 (((x1.toInt32 &&& 4095)).toNatClampNeg)))), (0, .ref 18), (1, .long x1), (3, .int x3)], [.ref 18])) rfl ?_
          refine rgR rfl rfl rfl (hSh.1.k 18 rfl _) (hSh.1.r 16 rfl _) ?_
          refine rsn 5 (t := (101, [(6, .int ((mX m 19 ((((((lus x1 24)).toInt32) &&& 4095)).toNatClampNeg)))), (5, .int ((mX m 19 ((((((lus x1 12)).toInt32) &&& 4095)).toNatClampNeg)))), (4, .int ((mX m 19 (((x1.toInt32 &&& 4095)).toNatClampNeg)))), (0, .ref 18), (1, .long x1), (3, .int x3)], [.int ((((x3 * 210)) + ((mX m 19 (((x1.toInt32 &&& 4095)).toNatClampNeg))))), .ref 23])) rfl ?_
          obtain ⟨c11, h⟩ := ck_some h
          refine pxI rfl (hSh.1.k 23 rfl _) (hSh.1.l 17 rfl _) c11 ?_
          show RN xs L al (Ev xs L al d) 82 102 [(6, .int ((mX m 19 ((((((lus x1 24)).toInt32) &&& 4095)).toNatClampNeg)))), (5, .int ((mX m 19 ((((((lus x1 12)).toInt32) &&& 4095)).toNatClampNeg)))), (4, .int ((mX m 19 (((x1.toInt32 &&& 4095)).toNatClampNeg)))), (0, .ref 18), (1, .long x1), (3, .int x3)] [.int ((mX m 23 (((((x3 * 210)) + ((mX m 19 (((x1.toInt32 &&& 4095)).toNatClampNeg))))).toNatClampNeg)))] (m, S) (some (.int r0)) (m, S)
          refine rsn 1 (t := (103, [(6, .int ((mX m 19 ((((((lus x1 24)).toInt32) &&& 4095)).toNatClampNeg)))), (5, .int ((mX m 19 ((((((lus x1 12)).toInt32) &&& 4095)).toNatClampNeg)))), (4, .int ((mX m 19 (((x1.toInt32 &&& 4095)).toNatClampNeg)))), (0, .ref 18), (1, .long x1), (3, .int x3)], [.ref 18, .int ((mX m 23 (((((x3 * 210)) + ((mX m 19 (((x1.toInt32 &&& 4095)).toNatClampNeg))))).toNatClampNeg)))])) rfl ?_
          refine rgR rfl rfl rfl (hSh.1.k 18 rfl _) (hSh.1.r 15 rfl _) ?_
          refine rsn 2 (t := (108, [(6, .int ((mX m 19 ((((((lus x1 24)).toInt32) &&& 4095)).toNatClampNeg)))), (5, .int ((mX m 19 ((((((lus x1 12)).toInt32) &&& 4095)).toNatClampNeg)))), (4, .int ((mX m 19 (((x1.toInt32 &&& 4095)).toNatClampNeg)))), (0, .ref 18), (1, .long x1), (3, .int x3)], [.ref 18, .int x3, .ref 22, .int ((mX m 23 (((((x3 * 210)) + ((mX m 19 (((x1.toInt32 &&& 4095)).toNatClampNeg))))).toNatClampNeg)))])) rfl ?_
          refine rgR rfl rfl rfl (hSh.1.k 18 rfl _) (hSh.1.r 13 rfl _) ?_
          refine rsn 1 (t := (113, [(6, .int ((mX m 19 ((((((lus x1 24)).toInt32) &&& 4095)).toNatClampNeg)))), (5, .int ((mX m 19 ((((((lus x1 12)).toInt32) &&& 4095)).toNatClampNeg)))), (4, .int ((mX m 19 (((x1.toInt32 &&& 4095)).toNatClampNeg)))), (0, .ref 18), (1, .long x1), (3, .int x3)], [.int ((mX m 19 (((x1.toInt32 &&& 4095)).toNatClampNeg))), .ref 20, .int x3, .ref 22, .int ((mX m 23 (((((x3 * 210)) + ((mX m 19 (((x1.toInt32 &&& 4095)).toNatClampNeg))))).toNatClampNeg)))])) rfl ?_
          obtain ⟨c12, h⟩ := ck_some h
          refine pxI rfl (hSh.1.k 20 rfl _) (hSh.1.l 14 rfl _) c12 ?_
          show RN xs L al (Ev xs L al d) 82 114 [(6, .int ((mX m 19 ((((((lus x1 24)).toInt32) &&& 4095)).toNatClampNeg)))), (5, .int ((mX m 19 ((((((lus x1 12)).toInt32) &&& 4095)).toNatClampNeg)))), (4, .int ((mX m 19 (((x1.toInt32 &&& 4095)).toNatClampNeg)))), (0, .ref 18), (1, .long x1), (3, .int x3)] [.int ((mX m 20 (((mX m 19 (((x1.toInt32 &&& 4095)).toNatClampNeg))).toNatClampNeg))), .int x3, .ref 22, .int ((mX m 23 (((((x3 * 210)) + ((mX m 19 (((x1.toInt32 &&& 4095)).toNatClampNeg))))).toNatClampNeg)))] (m, S) (some (.int r0)) (m, S)
          refine rsn 5 (t := (122, [(6, .int ((mX m 19 ((((((lus x1 24)).toInt32) &&& 4095)).toNatClampNeg)))), (5, .int ((mX m 19 ((((((lus x1 12)).toInt32) &&& 4095)).toNatClampNeg)))), (4, .int ((mX m 19 (((x1.toInt32 &&& 4095)).toNatClampNeg)))), (0, .ref 18), (1, .long x1), (3, .int x3)], [.int ((((((x3 - ((mX m 20 (((mX m 19 (((x1.toInt32 &&& 4095)).toNatClampNeg))).toNatClampNeg))))) * 210)) + ((mX m 19 ((((((lus x1 12)).toInt32) &&& 4095)).toNatClampNeg))))), .ref 22, .int ((mX m 23 (((((x3 * 210)) + ((mX m 19 (((x1.toInt32 &&& 4095)).toNatClampNeg))))).toNatClampNeg)))])) rfl ?_
          obtain ⟨c13, h⟩ := ck_some h
          refine pxI rfl (hSh.1.k 22 rfl _) (hSh.1.l 16 rfl _) c13 ?_
          show RN xs L al (Ev xs L al d) 82 123 [(6, .int ((mX m 19 ((((((lus x1 24)).toInt32) &&& 4095)).toNatClampNeg)))), (5, .int ((mX m 19 ((((((lus x1 12)).toInt32) &&& 4095)).toNatClampNeg)))), (4, .int ((mX m 19 (((x1.toInt32 &&& 4095)).toNatClampNeg)))), (0, .ref 18), (1, .long x1), (3, .int x3)] [.int ((mX m 22 (((((((x3 - ((mX m 20 (((mX m 19 (((x1.toInt32 &&& 4095)).toNatClampNeg))).toNatClampNeg))))) * 210)) + ((mX m 19 ((((((lus x1 12)).toInt32) &&& 4095)).toNatClampNeg))))).toNatClampNeg))), .int ((mX m 23 (((((x3 * 210)) + ((mX m 19 (((x1.toInt32 &&& 4095)).toNatClampNeg))))).toNatClampNeg)))] (m, S) (some (.int r0)) (m, S)
          refine rsn 3 (t := (127, [(6, .int ((mX m 19 ((((((lus x1 24)).toInt32) &&& 4095)).toNatClampNeg)))), (5, .int ((mX m 19 ((((((lus x1 12)).toInt32) &&& 4095)).toNatClampNeg)))), (4, .int ((mX m 19 (((x1.toInt32 &&& 4095)).toNatClampNeg)))), (0, .ref 18), (1, .long x1), (3, .int x3)], [.int ((((((mX m 23 (((((x3 * 210)) + ((mX m 19 (((x1.toInt32 &&& 4095)).toNatClampNeg))))).toNatClampNeg))) + ((mX m 22 (((((((x3 - ((mX m 20 (((mX m 19 (((x1.toInt32 &&& 4095)).toNatClampNeg))).toNatClampNeg))))) * 210)) + ((mX m 19 ((((((lus x1 12)).toInt32) &&& 4095)).toNatClampNeg))))).toNatClampNeg))))) + ((mX m 19 ((((((lus x1 24)).toInt32) &&& 4095)).toNatClampNeg)))))])) rfl ?_
          cases h
          exact rret rfl ⟨rfl, rfl, _, _, rfl, rfl, rfl, rfl⟩
        · rw [if_neg c10] at h
          refine rjf (a := (89, [(6, .int ((mX m 19 ((((((lus x1 24)).toInt32) &&& 4095)).toNatClampNeg)))), (5, .int ((mX m 19 ((((((lus x1 12)).toInt32) &&& 4095)).toNatClampNeg)))), (4, .int ((mX m 19 (((x1.toInt32 &&& 4095)).toNatClampNeg)))), (0, .ref 18), (1, .long x1), (3, .int x3)], [])) (b := (87, [(6, .int ((mX m 19 ((((((lus x1 24)).toInt32) &&& 4095)).toNatClampNeg)))), (5, .int ((mX m 19 ((((((lus x1 12)).toInt32) &&& 4095)).toNatClampNeg)))), (4, .int ((mX m 19 (((x1.toInt32 &&& 4095)).toNatClampNeg)))), (0, .ref 18), (1, .long x1), (3, .int x3)], [])) rfl rfl c10 ?_
          refine rsn 1 (t := (88, [(6, .int ((mX m 19 ((((((lus x1 24)).toInt32) &&& 4095)).toNatClampNeg)))), (5, .int ((mX m 19 ((((((lus x1 12)).toInt32) &&& 4095)).toNatClampNeg)))), (4, .int ((mX m 19 (((x1.toInt32 &&& 4095)).toNatClampNeg)))), (0, .ref 18), (1, .long x1), (3, .int x3)], [.int ((-1))])) rfl ?_
          cases h
          exact rret rfl ⟨rfl, rfl, _, _, rfl, rfl, rfl, rfl⟩
def f_Ranks_lateOf (N : Nat) (S : St) (x1 : Int64) (m : Mm) : Option (Int32) := b1 (f_State_cameOf N x1) fun r1 => ck (ix r1 8) (some ((mX m 27 r1.toNatClampNeg)))
set_option maxRecDepth 20000 in
set_option maxHeartbeats 4000000 in
theorem e_Ranks_lateOf {xs : Nat → Int32} {L : Nat} {al : Bool} (N : Nat) {d : Nat} (hd : 2 ≤ d) {S : St} (hSh : ShC S) {x1 : Int64} {m : Mm} {r0 : Int32} (h : f_Ranks_lateOf N S x1 m = some r0) : Ev xs L al d 83 [.ref 18, .long x1] (m, S) (some (.int r0)) (m, S) := by
  obtain ⟨d, rfl⟩ : ∃ e, d = e + 1 := ⟨d - 1, by omega⟩
  refine ev_of (by decide) (Nat.le_of_ble_eq_true rfl) ?_
  rw [f_Ranks_lateOf] at h
  show RN xs L al (Ev xs L al d) 83 0 [(0, .ref 18), (1, .long x1)] [] (m, S) (some (.int r0)) (m, S)
  refine rsn 1 (t := (1, [(0, .ref 18), (1, .long x1)], [.ref 18])) rfl ?_
  refine rgR rfl rfl rfl (hSh.1.k 18 rfl _) (hSh.1.r 20 rfl _) ?_
  refine rsn 1 (t := (5, [(0, .ref 18), (1, .long x1)], [.long x1, .ref 27])) rfl ?_
  obtain ⟨r1, g1, h⟩ := b1_some h
  refine rcS 55 [.long x1] rfl rfl rfl (Nat.le_of_ble_eq_true rfl) rfl (e_State_cameOf N (by omega) g1) ?_
  show RN xs L al (Ev xs L al d) 83 8 [(0, .ref 18), (1, .long x1)] [.int r1, .ref 27] (m, S) (some (.int r0)) (m, S)
  obtain ⟨c2, h⟩ := ck_some h
  refine pxI rfl (hSh.1.k 27 rfl _) (hSh.1.l 21 rfl _) c2 ?_
  show RN xs L al (Ev xs L al d) 83 9 [(0, .ref 18), (1, .long x1)] [.int ((mX m 27 r1.toNatClampNeg))] (m, S) (some (.int r0)) (m, S)
  cases h
  exact rret rfl ⟨rfl, rfl, _, _, rfl, rfl, rfl, rfl⟩
def f_Ranks_endPlaceOf (N : Nat) (S : St) (x1 : Int64) (m : Mm) : Option (Int32) := ck (ix ((mI m 18 11)) 7) (b1 (f_Ranks_cellPlace N S x1 ((mX m 25 (((mI m 18 11)).toNatClampNeg))) m) fun r2 => (if r2 = ((-1)) then some ((-1)) else b1 (f_Ranks_lateOf N S x1 m) fun r4 => some ((((r2 * ((mI m 18 10)))) + r4))))
set_option maxRecDepth 20000 in
set_option maxHeartbeats 4000000 in
theorem e_Ranks_endPlaceOf {xs : Nat → Int32} {L : Nat} {al : Bool} (N : Nat) {d : Nat} (hd : 3 ≤ d) {S : St} (hSh : ShC S) {x1 : Int64} {m : Mm} {r0 : Int32} (h : f_Ranks_endPlaceOf N S x1 m = some r0) : Ev xs L al d 81 [.ref 18, .long x1] (m, S) (some (.int r0)) (m, S) := by
  obtain ⟨d, rfl⟩ : ∃ e, d = e + 1 := ⟨d - 1, by omega⟩
  refine ev_of (by decide) (Nat.le_of_ble_eq_true rfl) ?_
  rw [f_Ranks_endPlaceOf] at h
  show RN xs L al (Ev xs L al d) 81 0 [(0, .ref 18), (1, .long x1)] [] (m, S) (some (.int r0)) (m, S)
  refine rsn 3 (t := (3, [(0, .ref 18), (1, .long x1)], [.ref 18, .long x1, .ref 18])) rfl ?_
  refine rgR rfl rfl rfl (hSh.1.k 18 rfl _) (hSh.1.r 18 rfl _) ?_
  refine rsn 1 (t := (7, [(0, .ref 18), (1, .long x1)], [.ref 18, .ref 25, .long x1, .ref 18])) rfl ?_
  refine pgI rfl rfl rfl (hSh.1.k 18 rfl _) ?_
  show RN xs L al (Ev xs L al d) 81 10 [(0, .ref 18), (1, .long x1)] [.int ((mI m 18 11)), .ref 25, .long x1, .ref 18] (m, S) (some (.int r0)) (m, S)
  obtain ⟨c1, h⟩ := ck_some h
  refine pxI rfl (hSh.1.k 25 rfl _) (hSh.1.l 19 rfl _) c1 ?_
  show RN xs L al (Ev xs L al d) 81 11 [(0, .ref 18), (1, .long x1)] [.int ((mX m 25 (((mI m 18 11)).toNatClampNeg))), .long x1, .ref 18] (m, S) (some (.int r0)) (m, S)
  obtain ⟨r2, g2, h⟩ := b1_some h
  refine rcV 82 18 [.long x1, .int ((mX m 25 (((mI m 18 11)).toNatClampNeg)))] rfl rfl rfl (hSh.1.k 18 rfl _) (Nat.le_of_ble_eq_true rfl) rfl (e_Ranks_cellPlace N (by omega) hSh g2) ?_
  show RN xs L al (Ev xs L al d) 81 14 [(0, .ref 18), (1, .long x1)] [.int r2] (m, S) (some (.int r0)) (m, S)
  refine rsn 3 (t := (17, [(3, .int r2), (0, .ref 18), (1, .long x1)], [.int ((-1)), .int r2])) rfl ?_
  by_cases c3 : r2 = ((-1))
  · rw [if_pos c3] at h
    refine rjf (a := (24, [(3, .int r2), (0, .ref 18), (1, .long x1)], [])) (b := (20, [(3, .int r2), (0, .ref 18), (1, .long x1)], [])) rfl rfl (fun q => q c3) ?_
    refine rsn 2 (t := (36, [(3, .int r2), (0, .ref 18), (1, .long x1)], [.int ((-1))])) rfl ?_
    cases h
    exact rret rfl ⟨rfl, rfl, _, _, rfl, rfl, rfl, rfl⟩
  · rw [if_neg c3] at h
    refine rjt (a := (24, [(3, .int r2), (0, .ref 18), (1, .long x1)], [])) (b := (20, [(3, .int r2), (0, .ref 18), (1, .long x1)], [])) rfl rfl c3 ?_
    refine rsn 2 (t := (26, [(3, .int r2), (0, .ref 18), (1, .long x1)], [.ref 18, .int r2])) rfl ?_
    refine pgI rfl rfl rfl (hSh.1.k 18 rfl _) ?_
    show RN xs L al (Ev xs L al d) 81 29 [(3, .int r2), (0, .ref 18), (1, .long x1)] [.int ((mI m 18 10)), .int r2] (m, S) (some (.int r0)) (m, S)
    refine rsn 3 (t := (32, [(3, .int r2), (0, .ref 18), (1, .long x1)], [.long x1, .ref 18, .int ((r2 * ((mI m 18 10))))])) rfl ?_
    obtain ⟨r4, g4, h⟩ := b1_some h
    refine rcV 83 18 [.long x1] rfl rfl rfl (hSh.1.k 18 rfl _) (Nat.le_of_ble_eq_true rfl) rfl (e_Ranks_lateOf N (by omega) hSh g4) ?_
    show RN xs L al (Ev xs L al d) 81 35 [(3, .int r2), (0, .ref 18), (1, .long x1)] [.int r4, .int ((r2 * ((mI m 18 10))))] (m, S) (some (.int r0)) (m, S)
    refine rsn 1 (t := (36, [(3, .int r2), (0, .ref 18), (1, .long x1)], [.int ((((r2 * ((mI m 18 10)))) + r4))])) rfl ?_
    cases h
    exact rret rfl ⟨rfl, rfl, _, _, rfl, rfl, rfl, rfl⟩
def f_Table_at (N : Nat) (S : St) (x0 : Nat) (x1 : Int32) (m : Mm) : Option (Int64) := (if x1 < 0 then some ((-9223372036854775808)) else b1 (S.1 x0 0) fun t2 => (if ((Int32.ofNat ((S.2.2.1 t2)))) ≤ x1 then some ((-9223372036854775808)) else b1 (S.1 x0 0) fun t4 => ck (ix x1 (S.2.2.1 t4)) (some ((mYy m t4 x1.toNatClampNeg)))))
set_option maxRecDepth 20000 in
set_option maxHeartbeats 4000000 in
theorem e_Table_at {xs : Nat → Int32} {L : Nat} {al : Bool} (N : Nat) {d : Nat} (hd : 1 ≤ d) {S : St} (hSh : ShC S) {x0 : Nat} {x1 : Int32} (hx0 : x0 ∈ tKl) {m : Mm} {r0 : Int64} (h : f_Table_at N S x0 x1 m = some r0) : Ev xs L al d 84 [.ref x0, .int x1] (m, S) (some (.long r0)) (m, S) := by
  obtain ⟨d, rfl⟩ : ∃ e, d = e + 1 := ⟨d - 1, by omega⟩
  refine ev_of (by decide) (Nat.le_of_ble_eq_true rfl) ?_
  rw [f_Table_at] at h
  show RN xs L al (Ev xs L al d) 84 0 [(0, .ref x0), (1, .int x1)] [] (m, S) (some (.long r0)) (m, S)
  refine rsn 1 (t := (1, [(0, .ref x0), (1, .int x1)], [.int x1])) rfl ?_
  by_cases c1 : x1 < 0
  · rw [if_pos c1] at h
    refine rjt (a := (22, [(0, .ref x0), (1, .int x1)], [])) (b := (4, [(0, .ref x0), (1, .int x1)], [])) rfl rfl c1 ?_
    refine rsn 1 (t := (25, [(0, .ref x0), (1, .int x1)], [.long ((-9223372036854775808))])) rfl ?_
    cases h
    exact rret rfl ⟨rfl, rfl, _, rfl, rfl, rfl⟩
  · rw [if_neg c1] at h
    refine rjf (a := (22, [(0, .ref x0), (1, .int x1)], [])) (b := (4, [(0, .ref x0), (1, .int x1)], [])) rfl rfl c1 ?_
    refine rsn 2 (t := (6, [(0, .ref x0), (1, .int x1)], [.ref x0, .int x1])) rfl ?_
    obtain ⟨t2, g2, h⟩ := b1_some h
    refine rgR rfl rfl rfl (hSh.kT hx0 _) g2 ?_
    refine rxL rfl (hSh.kF hx0 g2 _) (by decide) rfl ?_
    show RN xs L al (Ev xs L al d) 84 10 [(0, .ref x0), (1, .int x1)] [.int ((Int32.ofNat ((S.2.2.1 t2)))), .int x1] (m, S) (some (.long r0)) (m, S)
    by_cases c3 : ((Int32.ofNat ((S.2.2.1 t2)))) ≤ x1
    · rw [if_pos c3] at h
      refine rjt (a := (22, [(0, .ref x0), (1, .int x1)], [])) (b := (13, [(0, .ref x0), (1, .int x1)], [])) rfl rfl c3 ?_
      refine rsn 1 (t := (25, [(0, .ref x0), (1, .int x1)], [.long ((-9223372036854775808))])) rfl ?_
      cases h
      exact rret rfl ⟨rfl, rfl, _, rfl, rfl, rfl⟩
    · rw [if_neg c3] at h
      refine rjf (a := (22, [(0, .ref x0), (1, .int x1)], [])) (b := (13, [(0, .ref x0), (1, .int x1)], [])) rfl rfl c3 ?_
      refine rsn 1 (t := (14, [(0, .ref x0), (1, .int x1)], [.ref x0])) rfl ?_
      obtain ⟨t4, g4, h⟩ := b1_some h
      refine rgR rfl rfl rfl (hSh.kT hx0 _) g4 ?_
      refine rsn 1 (t := (18, [(0, .ref x0), (1, .int x1)], [.int x1, .ref t4])) rfl ?_
      obtain ⟨c5, h⟩ := ck_some h
      refine pxJ rfl (hSh.kF hx0 g4 _) rfl c5 ?_
      show RN xs L al (Ev xs L al d) 84 19 [(0, .ref x0), (1, .int x1)] [.long ((mYy m t4 x1.toNatClampNeg))] (m, S) (some (.long r0)) (m, S)
      refine rsn 1 (t := (25, [(0, .ref x0), (1, .int x1)], [.long ((mYy m t4 x1.toNatClampNeg))])) rfl ?_
      cases h
      exact rret rfl ⟨rfl, rfl, _, rfl, rfl, rfl⟩
def f_Integer_bitCount (N : Nat) (x0 : Int32) : Option (Int32) := some ((((((((((((((((x0 - ((((ius x0 1)) &&& 1431655765)))) &&& 858993459)) + ((((ius ((x0 - ((((ius x0 1)) &&& 1431655765)))) 2)) &&& 858993459)))) + ((ius ((((((x0 - ((((ius x0 1)) &&& 1431655765)))) &&& 858993459)) + ((((ius ((x0 - ((((ius x0 1)) &&& 1431655765)))) 2)) &&& 858993459)))) 4)))) &&& 252645135)) + ((ius ((((((((((x0 - ((((ius x0 1)) &&& 1431655765)))) &&& 858993459)) + ((((ius ((x0 - ((((ius x0 1)) &&& 1431655765)))) 2)) &&& 858993459)))) + ((ius ((((((x0 - ((((ius x0 1)) &&& 1431655765)))) &&& 858993459)) + ((((ius ((x0 - ((((ius x0 1)) &&& 1431655765)))) 2)) &&& 858993459)))) 4)))) &&& 252645135)) 8)))) + ((ius ((((((((((((x0 - ((((ius x0 1)) &&& 1431655765)))) &&& 858993459)) + ((((ius ((x0 - ((((ius x0 1)) &&& 1431655765)))) 2)) &&& 858993459)))) + ((ius ((((((x0 - ((((ius x0 1)) &&& 1431655765)))) &&& 858993459)) + ((((ius ((x0 - ((((ius x0 1)) &&& 1431655765)))) 2)) &&& 858993459)))) 4)))) &&& 252645135)) + ((ius ((((((((((x0 - ((((ius x0 1)) &&& 1431655765)))) &&& 858993459)) + ((((ius ((x0 - ((((ius x0 1)) &&& 1431655765)))) 2)) &&& 858993459)))) + ((ius ((((((x0 - ((((ius x0 1)) &&& 1431655765)))) &&& 858993459)) + ((((ius ((x0 - ((((ius x0 1)) &&& 1431655765)))) 2)) &&& 858993459)))) 4)))) &&& 252645135)) 8)))) 16)))) &&& 63))
set_option maxRecDepth 20000 in
set_option maxHeartbeats 4000000 in
theorem e_Integer_bitCount {xs : Nat → Int32} {L : Nat} {al : Bool} (N : Nat) {d : Nat} (hd : 1 ≤ d) {w : Wd} {x0 : Int32} {r0 : Int32} (h : f_Integer_bitCount N x0 = some r0) : Ev xs L al d 91 [.int x0] w (some (.int r0)) w := by
  obtain ⟨d, rfl⟩ : ∃ e, d = e + 1 := ⟨d - 1, by omega⟩
  refine ev_of (by decide) (Nat.le_of_ble_eq_true rfl) ?_
  rw [f_Integer_bitCount] at h
  show RN xs L al (Ev xs L al d) 91 0 [(0, .int x0)] [] w (some (.int r0)) w
  refine rsn 41 (t := (52, [(0, .int ((((((((((((((x0 - ((((ius x0 1)) &&& 1431655765)))) &&& 858993459)) + ((((ius ((x0 - ((((ius x0 1)) &&& 1431655765)))) 2)) &&& 858993459)))) + ((ius ((((((x0 - ((((ius x0 1)) &&& 1431655765)))) &&& 858993459)) + ((((ius ((x0 - ((((ius x0 1)) &&& 1431655765)))) 2)) &&& 858993459)))) 4)))) &&& 252645135)) + ((ius ((((((((((x0 - ((((ius x0 1)) &&& 1431655765)))) &&& 858993459)) + ((((ius ((x0 - ((((ius x0 1)) &&& 1431655765)))) 2)) &&& 858993459)))) + ((ius ((((((x0 - ((((ius x0 1)) &&& 1431655765)))) &&& 858993459)) + ((((ius ((x0 - ((((ius x0 1)) &&& 1431655765)))) 2)) &&& 858993459)))) 4)))) &&& 252645135)) 8)))) + ((ius ((((((((((((x0 - ((((ius x0 1)) &&& 1431655765)))) &&& 858993459)) + ((((ius ((x0 - ((((ius x0 1)) &&& 1431655765)))) 2)) &&& 858993459)))) + ((ius ((((((x0 - ((((ius x0 1)) &&& 1431655765)))) &&& 858993459)) + ((((ius ((x0 - ((((ius x0 1)) &&& 1431655765)))) 2)) &&& 858993459)))) 4)))) &&& 252645135)) + ((ius ((((((((((x0 - ((((ius x0 1)) &&& 1431655765)))) &&& 858993459)) + ((((ius ((x0 - ((((ius x0 1)) &&& 1431655765)))) 2)) &&& 858993459)))) + ((ius ((((((x0 - ((((ius x0 1)) &&& 1431655765)))) &&& 858993459)) + ((((ius ((x0 - ((((ius x0 1)) &&& 1431655765)))) 2)) &&& 858993459)))) 4)))) &&& 252645135)) 8)))) 16)))))], [.int ((((((((((((((((x0 - ((((ius x0 1)) &&& 1431655765)))) &&& 858993459)) + ((((ius ((x0 - ((((ius x0 1)) &&& 1431655765)))) 2)) &&& 858993459)))) + ((ius ((((((x0 - ((((ius x0 1)) &&& 1431655765)))) &&& 858993459)) + ((((ius ((x0 - ((((ius x0 1)) &&& 1431655765)))) 2)) &&& 858993459)))) 4)))) &&& 252645135)) + ((ius ((((((((((x0 - ((((ius x0 1)) &&& 1431655765)))) &&& 858993459)) + ((((ius ((x0 - ((((ius x0 1)) &&& 1431655765)))) 2)) &&& 858993459)))) + ((ius ((((((x0 - ((((ius x0 1)) &&& 1431655765)))) &&& 858993459)) + ((((ius ((x0 - ((((ius x0 1)) &&& 1431655765)))) 2)) &&& 858993459)))) 4)))) &&& 252645135)) 8)))) + ((ius ((((((((((((x0 - ((((ius x0 1)) &&& 1431655765)))) &&& 858993459)) + ((((ius ((x0 - ((((ius x0 1)) &&& 1431655765)))) 2)) &&& 858993459)))) + ((ius ((((((x0 - ((((ius x0 1)) &&& 1431655765)))) &&& 858993459)) + ((((ius ((x0 - ((((ius x0 1)) &&& 1431655765)))) 2)) &&& 858993459)))) 4)))) &&& 252645135)) + ((ius ((((((((((x0 - ((((ius x0 1)) &&& 1431655765)))) &&& 858993459)) + ((((ius ((x0 - ((((ius x0 1)) &&& 1431655765)))) 2)) &&& 858993459)))) + ((ius ((((((x0 - ((((ius x0 1)) &&& 1431655765)))) &&& 858993459)) + ((((ius ((x0 - ((((ius x0 1)) &&& 1431655765)))) 2)) &&& 858993459)))) 4)))) &&& 252645135)) 8)))) 16)))) &&& 63))])) rfl ?_
  cases h
  exact rret rfl ⟨rfl, rfl, _, _, rfl, rfl, rfl, rfl⟩
def f_Goals_leastShare_L14 (N : Nat) (S : St) (x0 : Nat) (x1 : Int64) (x3 : Int32) (m : Mm) (k14 : Int32 → Int32 → Option (Int32)) : Nat → Int32 → Int32 → Option (Int32)
  | 0, _, _ => none
  | n14 + 1, x4, x5 => f_Goals_leastShare_L14 N S x0 x1 x3 m k14 n14 x4 x5
def f_Goals_leastShare (N : Nat) (S : St) (x0 : Nat) (x1 : Int64) (m : Mm) : Option (Int32) := b1 (f_State_cameOf N x1) fun r1 => b1 (f_Integer_bitCount N r1) fun r2 => f_Goals_leastShare_L14 N S x0 x1 r2 m (fun (z3_4 : Int32) (z3_5 : Int32) => some z3_4) N ((-1)) 0
set_option maxRecDepth 20000 in
set_option maxHeartbeats 4000000 in
theorem e_Goals_leastShare {xs : Nat → Int32} {L : Nat} {al : Bool} (N : Nat) {d : Nat} (hd : 3 ≤ d) {S : St} (hSh : ShC S) {x0 : Nat} {x1 : Int64} (hx0 : x0 ∈ wKl) {m : Mm} {r0 : Int32} (h : f_Goals_leastShare N S x0 x1 m = some r0) : Ev xs L al d 90 [.ref x0, .long x1] (m, S) (some (.int r0)) (m, S) := by
  obtain ⟨d, rfl⟩ : ∃ e, d = e + 1 := ⟨d - 1, by omega⟩
  refine ev_of (by decide) (Nat.le_of_ble_eq_true rfl) ?_
  rw [f_Goals_leastShare] at h
  show RN xs L al (Ev xs L al d) 90 0 [(0, .ref x0), (1, .long x1)] [] (m, S) (some (.int r0)) (m, S)
  refine rsn 1 (t := (1, [(0, .ref x0), (1, .long x1)], [.long x1])) rfl ?_
  obtain ⟨r1, g1, h⟩ := b1_some h
  refine rcS 55 [.long x1] rfl rfl rfl (Nat.le_of_ble_eq_true rfl) rfl (e_State_cameOf N (by omega) g1) ?_
  show RN xs L al (Ev xs L al d) 90 4 [(0, .ref x0), (1, .long x1)] [.int r1] (m, S) (some (.int r0)) (m, S)
  obtain ⟨r2, g2, h⟩ := b1_some h
  refine rcS 91 [.int r1] rfl rfl rfl (Nat.le_of_ble_eq_true rfl) rfl (e_Integer_bitCount N (by omega) g2) ?_
  show RN xs L al (Ev xs L al d) 90 7 [(0, .ref x0), (1, .long x1)] [.int r2] (m, S) (some (.int r0)) (m, S)
  refine rsn 5 (t := (14, [(5, .int 0), (4, .int ((-1))), (3, .int r2), (0, .ref x0), (1, .long x1)], [])) rfl ?_
  have ex14 : ∀ (z3_4 : Int32) (z3_5 : Int32), (some z3_4) = some r0 → RN xs L al (Ev xs L al d) 90 128 [(4, .int z3_4)] [] (m, S) (some (.int r0)) (m, S) := by
    intro z3_4 z3_5 h
    try dsimp only at h
    refine rsn 1 (t := (130, [(4, .int z3_4)], [.int z3_4])) rfl ?_
    cases h
    exact rret rfl ⟨rfl, rfl, _, _, rfl, rfl, rfl, rfl⟩
  have lp14 : ∀ (n : Nat) (y4_4 : Int32) (y4_5 : Int32), (f_Goals_leastShare_L14 N S x0 x1 r2 m (fun (z3_4 : Int32) (z3_5 : Int32) => some z3_4) n y4_4 y4_5) = some r0 → RN xs L al (Ev xs L al d) 90 14 [(0, .ref x0), (1, .long x1), (3, .int r2), (4, .int y4_4), (5, .int y4_5)] [] (m, S) (some (.int r0)) (m, S) := by
    intro n
    induction n with
    | zero => intro y4_4 y4_5 h; exact absurd h (by simp [f_Goals_leastShare_L14])
    | succ n14 ih14 =>
      intro y4_4 y4_5 h
      try dsimp only at h
      rw [f_Goals_leastShare_L14] at h
      try dsimp only at h
      exact rsub [(0, .ref x0), (1, .long x1), (3, .int r2), (4, .int y4_4), (5, .int y4_5)] ⟨rfl, ⟨rfl, ⟨rfl, ⟨rfl, ⟨rfl, trivial⟩⟩⟩⟩⟩ ⟨rfl, ⟨rfl, ⟨rfl, ⟨rfl, ⟨rfl, trivial⟩⟩⟩⟩⟩ (ih14 y4_4 y4_5 h)
  exact rsub [(0, .ref x0), (1, .long x1), (3, .int r2), (4, .int ((-1))), (5, .int 0)] ⟨rfl, ⟨rfl, ⟨rfl, ⟨rfl, ⟨rfl, trivial⟩⟩⟩⟩⟩ ⟨rfl, ⟨rfl, ⟨rfl, ⟨rfl, ⟨rfl, trivial⟩⟩⟩⟩⟩ (lp14 N ((-1)) 0 h)
def f_Goals_leftOut_L24 (N : Nat) (S : St) (x0 : Nat) (x3 : Int32) (x4 : Int32) (m : Mm) (k24 : Int32 → Int64 → Int32 → Option (Int32)) : Nat → Int32 → Int64 → Int32 → Option (Int32)
  | 0, _, _, _ => none
  | n24 + 1, x5, x6, x8 => f_Goals_leftOut_L24 N S x0 x3 x4 m k24 n24 x5 x6 x8
def f_Goals_leftOut (N : Nat) (S : St) (x0 : Nat) (x1 : Int64) (x3 : Int32) (x4 : Int32) (m : Mm) : Option (Int32) := b1 (f_Will_valueOf N S x0 x3 x1 x4 m) fun r1 => b1 (f_Will_valueOf N S x0 x3 x1 x3 m) fun r2 => f_Goals_leftOut_L24 N S x0 x3 x4 m (fun (z3_5 : Int32) (z3_6 : Int64) (z3_8 : Int32) => some z3_8) N ((r1 - r2)) x1 0
set_option maxRecDepth 20000 in
set_option maxHeartbeats 4000000 in
theorem e_Goals_leftOut {xs : Nat → Int32} {L : Nat} {al : Bool} (N : Nat) {d : Nat} (hd : 2 ≤ d) {S : St} (hSh : ShC S) {x0 : Nat} {x1 : Int64} {x3 : Int32} {x4 : Int32} (hx0 : x0 ∈ wKl) {m : Mm} {r0 : Int32} (h : f_Goals_leftOut N S x0 x1 x3 x4 m = some r0) : Ev xs L al d 93 [.ref x0, .long x1, .int x3, .int x4] (m, S) (some (.int r0)) (m, S) := by
  obtain ⟨d, rfl⟩ : ∃ e, d = e + 1 := ⟨d - 1, by omega⟩
  refine ev_of (by decide) (Nat.le_of_ble_eq_true rfl) ?_
  rw [f_Goals_leftOut] at h
  show RN xs L al (Ev xs L al d) 93 0 [(0, .ref x0), (1, .long x1), (3, .int x3), (4, .int x4)] [] (m, S) (some (.int r0)) (m, S)
  refine rsn 4 (t := (5, [(0, .ref x0), (1, .long x1), (3, .int x3), (4, .int x4)], [.int x4, .long x1, .int x3, .ref x0])) rfl ?_
  obtain ⟨r1, g1, h⟩ := b1_some h
  refine rcV 58 x0 [.int x3, .long x1, .int x4] rfl rfl rfl (hSh.kW hx0 _) (Nat.le_of_ble_eq_true rfl) rfl (e_Will_valueOf N (by omega) hSh hx0 g1) ?_
  show RN xs L al (Ev xs L al d) 93 8 [(0, .ref x0), (1, .long x1), (3, .int x3), (4, .int x4)] [.int r1] (m, S) (some (.int r0)) (m, S)
  refine rsn 4 (t := (12, [(0, .ref x0), (1, .long x1), (3, .int x3), (4, .int x4)], [.int x3, .long x1, .int x3, .ref x0, .int r1])) rfl ?_
  obtain ⟨r2, g2, h⟩ := b1_some h
  refine rcV 58 x0 [.int x3, .long x1, .int x3] rfl rfl rfl (hSh.kW hx0 _) (Nat.le_of_ble_eq_true rfl) rfl (e_Will_valueOf N (by omega) hSh hx0 g2) ?_
  show RN xs L al (Ev xs L al d) 93 15 [(0, .ref x0), (1, .long x1), (3, .int x3), (4, .int x4)] [.int r2, .int r1] (m, S) (some (.int r0)) (m, S)
  refine rsn 6 (t := (24, [(8, .int 0), (6, .long x1), (5, .int ((r1 - r2))), (0, .ref x0), (1, .long x1), (3, .int x3), (4, .int x4)], [])) rfl ?_
  have ex24 : ∀ (z3_5 : Int32) (z3_6 : Int64) (z3_8 : Int32), (some z3_8) = some r0 → RN xs L al (Ev xs L al d) 93 132 [(8, .int z3_8)] [] (m, S) (some (.int r0)) (m, S) := by
    intro z3_5 z3_6 z3_8 h
    try dsimp only at h
    refine rsn 1 (t := (134, [(8, .int z3_8)], [.int z3_8])) rfl ?_
    cases h
    exact rret rfl ⟨rfl, rfl, _, _, rfl, rfl, rfl, rfl⟩
  have lp24 : ∀ (n : Nat) (y4_5 : Int32) (y4_6 : Int64) (y4_8 : Int32), (f_Goals_leftOut_L24 N S x0 x3 x4 m (fun (z3_5 : Int32) (z3_6 : Int64) (z3_8 : Int32) => some z3_8) n y4_5 y4_6 y4_8) = some r0 → RN xs L al (Ev xs L al d) 93 24 [(0, .ref x0), (3, .int x3), (4, .int x4), (5, .int y4_5), (6, .long y4_6), (8, .int y4_8)] [] (m, S) (some (.int r0)) (m, S) := by
    intro n
    induction n with
    | zero => intro y4_5 y4_6 y4_8 h; exact absurd h (by simp [f_Goals_leftOut_L24])
    | succ n24 ih24 =>
      intro y4_5 y4_6 y4_8 h
      try dsimp only at h
      rw [f_Goals_leftOut_L24] at h
      try dsimp only at h
      exact rsub [(0, .ref x0), (3, .int x3), (4, .int x4), (5, .int y4_5), (6, .long y4_6), (8, .int y4_8)] ⟨rfl, ⟨rfl, ⟨rfl, ⟨rfl, ⟨rfl, ⟨rfl, trivial⟩⟩⟩⟩⟩⟩ ⟨rfl, ⟨rfl, ⟨rfl, ⟨rfl, ⟨rfl, ⟨rfl, trivial⟩⟩⟩⟩⟩⟩ (ih24 y4_5 y4_6 y4_8 h)
  exact rsub [(0, .ref x0), (3, .int x3), (4, .int x4), (5, .int ((r1 - r2))), (6, .long x1), (8, .int 0)] ⟨rfl, ⟨rfl, ⟨rfl, ⟨rfl, ⟨rfl, ⟨rfl, trivial⟩⟩⟩⟩⟩⟩ ⟨rfl, ⟨rfl, ⟨rfl, ⟨rfl, ⟨rfl, ⟨rfl, trivial⟩⟩⟩⟩⟩⟩ (lp24 N ((r1 - r2)) x1 0 h)
def f_Goals_mostLeftOut_L5 (N : Nat) (S : St) (x0 : Nat) (x1 : Int64) (m : Mm) (k5 : Int32 → Int32 → Option (Int32)) : Nat → Int32 → Int32 → Option (Int32)
  | 0, _, _ => none
  | n5 + 1, x3, x4 => f_Goals_mostLeftOut_L5 N S x0 x1 m k5 n5 x3 x4
def f_Goals_mostLeftOut (N : Nat) (S : St) (x0 : Nat) (x1 : Int64) (m : Mm) : Option (Int32) := f_Goals_mostLeftOut_L5 N S x0 x1 m (fun (z1_3 : Int32) (z1_4 : Int32) => some z1_3) N 0 0
set_option maxRecDepth 20000 in
set_option maxHeartbeats 4000000 in
theorem e_Goals_mostLeftOut {xs : Nat → Int32} {L : Nat} {al : Bool} (N : Nat) {d : Nat} (hd : 3 ≤ d) {S : St} (hSh : ShC S) {x0 : Nat} {x1 : Int64} (hx0 : x0 ∈ wKl) {m : Mm} {r0 : Int32} (h : f_Goals_mostLeftOut N S x0 x1 m = some r0) : Ev xs L al d 92 [.ref x0, .long x1] (m, S) (some (.int r0)) (m, S) := by
  obtain ⟨d, rfl⟩ : ∃ e, d = e + 1 := ⟨d - 1, by omega⟩
  refine ev_of (by decide) (Nat.le_of_ble_eq_true rfl) ?_
  rw [f_Goals_mostLeftOut] at h
  show RN xs L al (Ev xs L al d) 92 0 [(0, .ref x0), (1, .long x1)] [] (m, S) (some (.int r0)) (m, S)
  refine rsn 4 (t := (5, [(4, .int 0), (3, .int 0), (0, .ref x0), (1, .long x1)], [])) rfl ?_
  have ex5 : ∀ (z1_3 : Int32) (z1_4 : Int32), (some z1_3) = some r0 → RN xs L al (Ev xs L al d) 92 77 [(3, .int z1_3)] [] (m, S) (some (.int r0)) (m, S) := by
    intro z1_3 z1_4 h
    try dsimp only at h
    refine rsn 1 (t := (78, [(3, .int z1_3)], [.int z1_3])) rfl ?_
    cases h
    exact rret rfl ⟨rfl, rfl, _, _, rfl, rfl, rfl, rfl⟩
  have lp5 : ∀ (n : Nat) (y2_3 : Int32) (y2_4 : Int32), (f_Goals_mostLeftOut_L5 N S x0 x1 m (fun (z1_3 : Int32) (z1_4 : Int32) => some z1_3) n y2_3 y2_4) = some r0 → RN xs L al (Ev xs L al d) 92 5 [(0, .ref x0), (1, .long x1), (3, .int y2_3), (4, .int y2_4)] [] (m, S) (some (.int r0)) (m, S) := by
    intro n
    induction n with
    | zero => intro y2_3 y2_4 h; exact absurd h (by simp [f_Goals_mostLeftOut_L5])
    | succ n5 ih5 =>
      intro y2_3 y2_4 h
      try dsimp only at h
      rw [f_Goals_mostLeftOut_L5] at h
      try dsimp only at h
      exact rsub [(0, .ref x0), (1, .long x1), (3, .int y2_3), (4, .int y2_4)] ⟨rfl, ⟨rfl, ⟨rfl, ⟨rfl, trivial⟩⟩⟩⟩ ⟨rfl, ⟨rfl, ⟨rfl, ⟨rfl, trivial⟩⟩⟩⟩ (ih5 y2_3 y2_4 h)
  exact rsub [(0, .ref x0), (1, .long x1), (3, .int 0), (4, .int 0)] ⟨rfl, ⟨rfl, ⟨rfl, ⟨rfl, trivial⟩⟩⟩⟩ ⟨rfl, ⟨rfl, ⟨rfl, ⟨rfl, trivial⟩⟩⟩⟩ (lp5 N 0 0 h)
def f_Goals_sum_L5 (N : Nat) (S : St) (x0 : Nat) (x1 : Int64) (m : Mm) (k5 : Int32 → Int32 → Option (Int32)) : Nat → Int32 → Int32 → Option (Int32)
  | 0, _, _ => none
  | n5 + 1, x3, x4 => f_Goals_sum_L5 N S x0 x1 m k5 n5 x3 x4
def f_Goals_sum (N : Nat) (S : St) (x0 : Nat) (x1 : Int64) (m : Mm) : Option (Int32) := f_Goals_sum_L5 N S x0 x1 m (fun (z1_3 : Int32) (z1_4 : Int32) => some z1_3) N 0 0
set_option maxRecDepth 20000 in
set_option maxHeartbeats 4000000 in
theorem e_Goals_sum {xs : Nat → Int32} {L : Nat} {al : Bool} (N : Nat) {d : Nat} (hd : 3 ≤ d) {S : St} (hSh : ShC S) {x0 : Nat} {x1 : Int64} (hx0 : x0 ∈ wKl) {m : Mm} {r0 : Int32} (h : f_Goals_sum N S x0 x1 m = some r0) : Ev xs L al d 94 [.ref x0, .long x1] (m, S) (some (.int r0)) (m, S) := by
  obtain ⟨d, rfl⟩ : ∃ e, d = e + 1 := ⟨d - 1, by omega⟩
  refine ev_of (by decide) (Nat.le_of_ble_eq_true rfl) ?_
  rw [f_Goals_sum] at h
  show RN xs L al (Ev xs L al d) 94 0 [(0, .ref x0), (1, .long x1)] [] (m, S) (some (.int r0)) (m, S)
  refine rsn 4 (t := (5, [(4, .int 0), (3, .int 0), (0, .ref x0), (1, .long x1)], [])) rfl ?_
  have ex5 : ∀ (z1_3 : Int32) (z1_4 : Int32), (some z1_3) = some r0 → RN xs L al (Ev xs L al d) 94 41 [(3, .int z1_3)] [] (m, S) (some (.int r0)) (m, S) := by
    intro z1_3 z1_4 h
    try dsimp only at h
    refine rsn 1 (t := (42, [(3, .int z1_3)], [.int z1_3])) rfl ?_
    cases h
    exact rret rfl ⟨rfl, rfl, _, _, rfl, rfl, rfl, rfl⟩
  have lp5 : ∀ (n : Nat) (y2_3 : Int32) (y2_4 : Int32), (f_Goals_sum_L5 N S x0 x1 m (fun (z1_3 : Int32) (z1_4 : Int32) => some z1_3) n y2_3 y2_4) = some r0 → RN xs L al (Ev xs L al d) 94 5 [(0, .ref x0), (1, .long x1), (3, .int y2_3), (4, .int y2_4)] [] (m, S) (some (.int r0)) (m, S) := by
    intro n
    induction n with
    | zero => intro y2_3 y2_4 h; exact absurd h (by simp [f_Goals_sum_L5])
    | succ n5 ih5 =>
      intro y2_3 y2_4 h
      try dsimp only at h
      rw [f_Goals_sum_L5] at h
      try dsimp only at h
      exact rsub [(0, .ref x0), (1, .long x1), (3, .int y2_3), (4, .int y2_4)] ⟨rfl, ⟨rfl, ⟨rfl, ⟨rfl, trivial⟩⟩⟩⟩ ⟨rfl, ⟨rfl, ⟨rfl, ⟨rfl, trivial⟩⟩⟩⟩ (ih5 y2_3 y2_4 h)
  exact rsub [(0, .ref x0), (1, .long x1), (3, .int 0), (4, .int 0)] ⟨rfl, ⟨rfl, ⟨rfl, ⟨rfl, trivial⟩⟩⟩⟩ ⟨rfl, ⟨rfl, ⟨rfl, ⟨rfl, trivial⟩⟩⟩⟩ (lp5 N 0 0 h)
def f_Table_put (N : Nat) (S : St) (x0 : Nat) (x1 : Int32) (x2 : Int64) (m : Mm) : Option (Mm) := (if x1 < 0 then some m else b1 (S.1 x0 0) fun t2 => (if ((Int32.ofNat ((S.2.2.1 t2)))) ≤ x1 then some m else b1 (S.1 x0 0) fun t4 => ck (ix x1 (S.2.2.1 t4)) (some (vY m t4 x1.toNatClampNeg x2))))
set_option maxRecDepth 20000 in
set_option maxHeartbeats 4000000 in
theorem e_Table_put {xs : Nat → Int32} {L : Nat} {al : Bool} (N : Nat) {d : Nat} (hd : 1 ≤ d) {S : St} (hSh : ShC S) {x0 : Nat} {x1 : Int32} {x2 : Int64} (hx0 : x0 ∈ tKl) {m : Mm} {mf : Mm} (h : f_Table_put N S x0 x1 x2 m = some mf) : Ev xs L al d 95 [.ref x0, .int x1, .long x2] (m, S) none (mf, S) := by
  obtain ⟨d, rfl⟩ : ∃ e, d = e + 1 := ⟨d - 1, by omega⟩
  refine ev_of (by decide) (Nat.le_of_ble_eq_true rfl) ?_
  rw [f_Table_put] at h
  show RN xs L al (Ev xs L al d) 95 0 [(0, .ref x0), (1, .int x1), (2, .long x2)] [] (m, S) none (mf, S)
  refine rsn 1 (t := (1, [(0, .ref x0), (1, .int x1), (2, .long x2)], [.int x1])) rfl ?_
  by_cases c1 : x1 < 0
  · rw [if_pos c1] at h
    refine rjt (a := (20, [(0, .ref x0), (1, .int x1), (2, .long x2)], [])) (b := (4, [(0, .ref x0), (1, .int x1), (2, .long x2)], [])) rfl rfl c1 ?_
    cases h
    exact rret rfl ⟨rfl, rfl, rfl, rfl, rfl⟩
  · rw [if_neg c1] at h
    refine rjf (a := (20, [(0, .ref x0), (1, .int x1), (2, .long x2)], [])) (b := (4, [(0, .ref x0), (1, .int x1), (2, .long x2)], [])) rfl rfl c1 ?_
    refine rsn 2 (t := (6, [(0, .ref x0), (1, .int x1), (2, .long x2)], [.ref x0, .int x1])) rfl ?_
    obtain ⟨t2, g2, h⟩ := b1_some h
    refine rgR rfl rfl rfl (hSh.kT hx0 _) g2 ?_
    refine rxL rfl (hSh.kF hx0 g2 _) (by decide) rfl ?_
    show RN xs L al (Ev xs L al d) 95 10 [(0, .ref x0), (1, .int x1), (2, .long x2)] [.int ((Int32.ofNat ((S.2.2.1 t2)))), .int x1] (m, S) none (mf, S)
    by_cases c3 : ((Int32.ofNat ((S.2.2.1 t2)))) ≤ x1
    · rw [if_pos c3] at h
      refine rjt (a := (20, [(0, .ref x0), (1, .int x1), (2, .long x2)], [])) (b := (13, [(0, .ref x0), (1, .int x1), (2, .long x2)], [])) rfl rfl c3 ?_
      cases h
      exact rret rfl ⟨rfl, rfl, rfl, rfl, rfl⟩
    · rw [if_neg c3] at h
      refine rjf (a := (20, [(0, .ref x0), (1, .int x1), (2, .long x2)], [])) (b := (13, [(0, .ref x0), (1, .int x1), (2, .long x2)], [])) rfl rfl c3 ?_
      refine rsn 1 (t := (14, [(0, .ref x0), (1, .int x1), (2, .long x2)], [.ref x0])) rfl ?_
      obtain ⟨t4, g4, h⟩ := b1_some h
      refine rgR rfl rfl rfl (hSh.kT hx0 _) g4 ?_
      refine rsn 2 (t := (19, [(0, .ref x0), (1, .int x1), (2, .long x2)], [.long x2, .int x1, .ref t4])) rfl ?_
      obtain ⟨c5, h⟩ := ck_some h
      refine psJ rfl (hSh.kF hx0 g4 _) rfl c5 ?_
      cases h
      exact rret rfl ⟨rfl, rfl, rfl, rfl, rfl⟩
def f_Ranks_dayPlaces (N : Nat) (S : St) (m : Mm) : Option (Int32) := ck (ix ((mI m 18 11)) 8) (some ((((mX m 26 (((mI m 18 11)).toNatClampNeg))) * ((mI m 18 10)))))
set_option maxRecDepth 20000 in
set_option maxHeartbeats 4000000 in
theorem e_Ranks_dayPlaces {xs : Nat → Int32} {L : Nat} {al : Bool} (N : Nat) {d : Nat} (hd : 1 ≤ d) {S : St} (hSh : ShC S) {m : Mm} {r0 : Int32} (h : f_Ranks_dayPlaces N S m = some r0) : Ev xs L al d 99 [.ref 18] (m, S) (some (.int r0)) (m, S) := by
  obtain ⟨d, rfl⟩ : ∃ e, d = e + 1 := ⟨d - 1, by omega⟩
  refine ev_of (by decide) (Nat.le_of_ble_eq_true rfl) ?_
  rw [f_Ranks_dayPlaces] at h
  show RN xs L al (Ev xs L al d) 99 0 [(0, .ref 18)] [] (m, S) (some (.int r0)) (m, S)
  refine rsn 1 (t := (1, [(0, .ref 18)], [.ref 18])) rfl ?_
  refine rgR rfl rfl rfl (hSh.1.k 18 rfl _) (hSh.1.r 19 rfl _) ?_
  refine rsn 1 (t := (5, [(0, .ref 18)], [.ref 18, .ref 26])) rfl ?_
  refine pgI rfl rfl rfl (hSh.1.k 18 rfl _) ?_
  show RN xs L al (Ev xs L al d) 99 8 [(0, .ref 18)] [.int ((mI m 18 11)), .ref 26] (m, S) (some (.int r0)) (m, S)
  obtain ⟨c1, h⟩ := ck_some h
  refine pxI rfl (hSh.1.k 26 rfl _) (hSh.1.l 20 rfl _) c1 ?_
  show RN xs L al (Ev xs L al d) 99 9 [(0, .ref 18)] [.int ((mX m 26 (((mI m 18 11)).toNatClampNeg)))] (m, S) (some (.int r0)) (m, S)
  refine rsn 1 (t := (10, [(0, .ref 18)], [.ref 18, .int ((mX m 26 (((mI m 18 11)).toNatClampNeg)))])) rfl ?_
  refine pgI rfl rfl rfl (hSh.1.k 18 rfl _) ?_
  show RN xs L al (Ev xs L al d) 99 13 [(0, .ref 18)] [.int ((mI m 18 10)), .int ((mX m 26 (((mI m 18 11)).toNatClampNeg)))] (m, S) (some (.int r0)) (m, S)
  refine rsn 1 (t := (14, [(0, .ref 18)], [.int ((((mX m 26 (((mI m 18 11)).toNatClampNeg))) * ((mI m 18 10))))])) rfl ?_
  cases h
  exact rret rfl ⟨rfl, rfl, _, _, rfl, rfl, rfl, rfl⟩
def f_Ranks_placeOf (N : Nat) (S : St) (x1 : Int64) (m : Mm) : Option (Int32) := b1 (f_State_dayOf N x1) fun r1 => (if r1 ≤ ((mI m 18 11)) then ck (ix r1 7) (b1 (f_Ranks_cellPlace N S x1 ((mX m 25 r1.toNatClampNeg)) m) fun r4 => (if r4 = ((-1)) then some ((-1)) else ck (ix r1 8) (b1 (f_Ranks_lateOf N S x1 m) fun r7 => some ((((((((mX m 26 r1.toNatClampNeg)) + r4)) * ((mI m 18 10)))) + r7))))) else some ((-1)))
set_option maxRecDepth 20000 in
set_option maxHeartbeats 4000000 in
theorem e_Ranks_placeOf {xs : Nat → Int32} {L : Nat} {al : Bool} (N : Nat) {d : Nat} (hd : 3 ≤ d) {S : St} (hSh : ShC S) {x1 : Int64} {m : Mm} {r0 : Int32} (h : f_Ranks_placeOf N S x1 m = some r0) : Ev xs L al d 102 [.ref 18, .long x1] (m, S) (some (.int r0)) (m, S) := by
  obtain ⟨d, rfl⟩ : ∃ e, d = e + 1 := ⟨d - 1, by omega⟩
  refine ev_of (by decide) (Nat.le_of_ble_eq_true rfl) ?_
  rw [f_Ranks_placeOf] at h
  show RN xs L al (Ev xs L al d) 102 0 [(0, .ref 18), (1, .long x1)] [] (m, S) (some (.int r0)) (m, S)
  refine rsn 1 (t := (1, [(0, .ref 18), (1, .long x1)], [.long x1])) rfl ?_
  obtain ⟨r1, g1, h⟩ := b1_some h
  refine rcS 63 [.long x1] rfl rfl rfl (Nat.le_of_ble_eq_true rfl) rfl (e_State_dayOf N (by omega) g1) ?_
  show RN xs L al (Ev xs L al d) 102 4 [(0, .ref 18), (1, .long x1)] [.int r1] (m, S) (some (.int r0)) (m, S)
  refine rsn 3 (t := (7, [(3, .int r1), (0, .ref 18), (1, .long x1)], [.ref 18, .int r1])) rfl ?_
  refine pgI rfl rfl rfl (hSh.1.k 18 rfl _) ?_
  show RN xs L al (Ev xs L al d) 102 10 [(3, .int r1), (0, .ref 18), (1, .long x1)] [.int ((mI m 18 11)), .int r1] (m, S) (some (.int r0)) (m, S)
  by_cases c2 : r1 ≤ ((mI m 18 11))
  · rw [if_pos c2] at h
    refine rjt (a := (15, [(3, .int r1), (0, .ref 18), (1, .long x1)], [])) (b := (13, [(3, .int r1), (0, .ref 18), (1, .long x1)], [])) rfl rfl c2 ?_
    refine rsn 3 (t := (18, [(3, .int r1), (0, .ref 18), (1, .long x1)], [.ref 18, .long x1, .ref 18])) rfl ?_
    refine rgR rfl rfl rfl (hSh.1.k 18 rfl _) (hSh.1.r 18 rfl _) ?_
    refine rsn 1 (t := (22, [(3, .int r1), (0, .ref 18), (1, .long x1)], [.int r1, .ref 25, .long x1, .ref 18])) rfl ?_
    obtain ⟨c3, h⟩ := ck_some h
    refine pxI rfl (hSh.1.k 25 rfl _) (hSh.1.l 19 rfl _) c3 ?_
    show RN xs L al (Ev xs L al d) 102 23 [(3, .int r1), (0, .ref 18), (1, .long x1)] [.int ((mX m 25 r1.toNatClampNeg)), .long x1, .ref 18] (m, S) (some (.int r0)) (m, S)
    obtain ⟨r4, g4, h⟩ := b1_some h
    refine rcV 82 18 [.long x1, .int ((mX m 25 r1.toNatClampNeg))] rfl rfl rfl (hSh.1.k 18 rfl _) (Nat.le_of_ble_eq_true rfl) rfl (e_Ranks_cellPlace N (by omega) hSh g4) ?_
    show RN xs L al (Ev xs L al d) 102 26 [(3, .int r1), (0, .ref 18), (1, .long x1)] [.int r4] (m, S) (some (.int r0)) (m, S)
    refine rsn 3 (t := (31, [(4, .int r4), (3, .int r1), (0, .ref 18), (1, .long x1)], [.int ((-1)), .int r4])) rfl ?_
    by_cases c5 : r4 = ((-1))
    · rw [if_pos c5] at h
      refine rjf (a := (38, [(4, .int r4), (3, .int r1), (0, .ref 18), (1, .long x1)], [])) (b := (34, [(4, .int r4), (3, .int r1), (0, .ref 18), (1, .long x1)], [])) rfl rfl (fun q => q c5) ?_
      refine rsn 2 (t := (58, [(4, .int r4), (3, .int r1), (0, .ref 18), (1, .long x1)], [.int ((-1))])) rfl ?_
      cases h
      exact rret rfl ⟨rfl, rfl, _, _, rfl, rfl, rfl, rfl⟩
    · rw [if_neg c5] at h
      refine rjt (a := (38, [(4, .int r4), (3, .int r1), (0, .ref 18), (1, .long x1)], [])) (b := (34, [(4, .int r4), (3, .int r1), (0, .ref 18), (1, .long x1)], [])) rfl rfl c5 ?_
      refine rsn 1 (t := (39, [(4, .int r4), (3, .int r1), (0, .ref 18), (1, .long x1)], [.ref 18])) rfl ?_
      refine rgR rfl rfl rfl (hSh.1.k 18 rfl _) (hSh.1.r 19 rfl _) ?_
      refine rsn 1 (t := (43, [(4, .int r4), (3, .int r1), (0, .ref 18), (1, .long x1)], [.int r1, .ref 26])) rfl ?_
      obtain ⟨c6, h⟩ := ck_some h
      refine pxI rfl (hSh.1.k 26 rfl _) (hSh.1.l 20 rfl _) c6 ?_
      show RN xs L al (Ev xs L al d) 102 44 [(4, .int r4), (3, .int r1), (0, .ref 18), (1, .long x1)] [.int ((mX m 26 r1.toNatClampNeg))] (m, S) (some (.int r0)) (m, S)
      refine rsn 3 (t := (48, [(4, .int r4), (3, .int r1), (0, .ref 18), (1, .long x1)], [.ref 18, .int ((((mX m 26 r1.toNatClampNeg)) + r4))])) rfl ?_
      refine pgI rfl rfl rfl (hSh.1.k 18 rfl _) ?_
      show RN xs L al (Ev xs L al d) 102 51 [(4, .int r4), (3, .int r1), (0, .ref 18), (1, .long x1)] [.int ((mI m 18 10)), .int ((((mX m 26 r1.toNatClampNeg)) + r4))] (m, S) (some (.int r0)) (m, S)
      refine rsn 3 (t := (54, [(4, .int r4), (3, .int r1), (0, .ref 18), (1, .long x1)], [.long x1, .ref 18, .int ((((((mX m 26 r1.toNatClampNeg)) + r4)) * ((mI m 18 10))))])) rfl ?_
      obtain ⟨r7, g7, h⟩ := b1_some h
      refine rcV 83 18 [.long x1] rfl rfl rfl (hSh.1.k 18 rfl _) (Nat.le_of_ble_eq_true rfl) rfl (e_Ranks_lateOf N (by omega) hSh g7) ?_
      show RN xs L al (Ev xs L al d) 102 57 [(4, .int r4), (3, .int r1), (0, .ref 18), (1, .long x1)] [.int r7, .int ((((((mX m 26 r1.toNatClampNeg)) + r4)) * ((mI m 18 10))))] (m, S) (some (.int r0)) (m, S)
      refine rsn 1 (t := (58, [(4, .int r4), (3, .int r1), (0, .ref 18), (1, .long x1)], [.int ((((((((mX m 26 r1.toNatClampNeg)) + r4)) * ((mI m 18 10)))) + r7))])) rfl ?_
      cases h
      exact rret rfl ⟨rfl, rfl, _, _, rfl, rfl, rfl, rfl⟩
  · rw [if_neg c2] at h
    refine rjf (a := (15, [(3, .int r1), (0, .ref 18), (1, .long x1)], [])) (b := (13, [(3, .int r1), (0, .ref 18), (1, .long x1)], [])) rfl rfl c2 ?_
    refine rsn 1 (t := (14, [(3, .int r1), (0, .ref 18), (1, .long x1)], [.int ((-1))])) rfl ?_
    cases h
    exact rret rfl ⟨rfl, rfl, _, _, rfl, rfl, rfl, rfl⟩
def f_Sight_holdable (N : Nat) (S : St) (x0 : Nat) (m : Mm) : Option (Int32) := (if ((mI m x0 3)) = 2 then some ((((mI m 10 2)) + 1)) else some ((mI m 10 2)))
set_option maxRecDepth 20000 in
set_option maxHeartbeats 4000000 in
theorem e_Sight_holdable {xs : Nat → Int32} {L : Nat} {al : Bool} (N : Nat) {d : Nat} (hd : 1 ≤ d) {S : St} (hSh : ShC S) {x0 : Nat} (hx0 : x0 ∈ sKl) {m : Mm} {r0 : Int32} (h : f_Sight_holdable N S x0 m = some r0) : Ev xs L al d 106 [.ref x0] (m, S) (some (.int r0)) (m, S) := by
  obtain ⟨d, rfl⟩ : ∃ e, d = e + 1 := ⟨d - 1, by omega⟩
  refine ev_of (by decide) (Nat.le_of_ble_eq_true rfl) ?_
  rw [f_Sight_holdable] at h
  show RN xs L al (Ev xs L al d) 106 0 [(0, .ref x0)] [] (m, S) (some (.int r0)) (m, S)
  refine rsn 1 (t := (1, [(0, .ref x0)], [.ref x0])) rfl ?_
  refine pgI rfl rfl rfl (hSh.kS hx0 _) ?_
  show RN xs L al (Ev xs L al d) 106 4 [(0, .ref x0)] [.int ((mI m x0 3))] (m, S) (some (.int r0)) (m, S)
  refine rsn 1 (t := (5, [(0, .ref x0)], [.int 2, .int ((mI m x0 3))])) rfl ?_
  by_cases c1 : ((mI m x0 3)) = 2
  · rw [if_pos c1] at h
    refine rjf (a := (20, [(0, .ref x0)], [])) (b := (8, [(0, .ref x0)], [])) rfl rfl (fun q => q c1) ?_
    refine rsn 1 (t := (9, [(0, .ref x0)], [.ref x0])) rfl ?_
    refine rgR rfl rfl rfl (hSh.kS hx0 _) (hSh.rS1 hx0 _) ?_
    refine pgI rfl rfl rfl (hSh.1.k 10 rfl _) ?_
    show RN xs L al (Ev xs L al d) 106 15 [(0, .ref x0)] [.int ((mI m 10 2))] (m, S) (some (.int r0)) (m, S)
    refine rsn 3 (t := (27, [(0, .ref x0)], [.int ((((mI m 10 2)) + 1))])) rfl ?_
    cases h
    exact rret rfl ⟨rfl, rfl, _, _, rfl, rfl, rfl, rfl⟩
  · rw [if_neg c1] at h
    refine rjt (a := (20, [(0, .ref x0)], [])) (b := (8, [(0, .ref x0)], [])) rfl rfl c1 ?_
    refine rsn 1 (t := (21, [(0, .ref x0)], [.ref x0])) rfl ?_
    refine rgR rfl rfl rfl (hSh.kS hx0 _) (hSh.rS1 hx0 _) ?_
    refine pgI rfl rfl rfl (hSh.1.k 10 rfl _) ?_
    show RN xs L al (Ev xs L al d) 106 27 [(0, .ref x0)] [.int ((mI m 10 2))] (m, S) (some (.int r0)) (m, S)
    cases h
    exact rret rfl ⟨rfl, rfl, _, _, rfl, rfl, rfl, rfl⟩
def f_SC_thousandths_L11 (N : Nat) (S : St) (x1 : Int64) (m : Mm) (k11 : Int64 → Int32 → Option (Int32)) : Nat → Int64 → Int32 → Option (Int32)
  | 0, _, _ => none
  | n11 + 1, x3, x5 => f_SC_thousandths_L11 N S x1 m k11 n11 x3 x5
def f_SC_thousandths (N : Nat) (S : St) (x1 : Int64) (m : Mm) : Option (Int32) := b1 (f_State_dayOf N ((mJ m 0 7))) fun r1 => f_SC_thousandths_L11 N S x1 m (fun (z2_3 : Int64) (z2_5 : Int32) => ck (¬ z2_3 = 0) (some (((((x1 * 1000)) / z2_3)).toInt32))) N 1 r1
set_option maxRecDepth 20000 in
set_option maxHeartbeats 4000000 in
theorem e_SC_thousandths {xs : Nat → Int32} {L : Nat} {al : Bool} (N : Nat) {d : Nat} (hd : 2 ≤ d) {S : St} (hSh : ShC S) {x1 : Int64} {m : Mm} {r0 : Int32} (h : f_SC_thousandths N S x1 m = some r0) : Ev xs L al d 108 [.ref 0, .long x1] (m, S) (some (.int r0)) (m, S) := by
  obtain ⟨d, rfl⟩ : ∃ e, d = e + 1 := ⟨d - 1, by omega⟩
  refine ev_of (by decide) (Nat.le_of_ble_eq_true rfl) ?_
  rw [f_SC_thousandths] at h
  show RN xs L al (Ev xs L al d) 108 0 [(0, .ref 0), (1, .long x1)] [] (m, S) (some (.int r0)) (m, S)
  refine rsn 3 (t := (3, [(3, .long 1), (0, .ref 0), (1, .long x1)], [.ref 0])) rfl ?_
  refine pgJ rfl rfl rfl (hSh.1.k 0 rfl _) ?_
  show RN xs L al (Ev xs L al d) 108 6 [(3, .long 1), (0, .ref 0), (1, .long x1)] [.long ((mJ m 0 7))] (m, S) (some (.int r0)) (m, S)
  obtain ⟨r1, g1, h⟩ := b1_some h
  refine rcS 63 [.long ((mJ m 0 7))] rfl rfl rfl (Nat.le_of_ble_eq_true rfl) rfl (e_State_dayOf N (by omega) g1) ?_
  show RN xs L al (Ev xs L al d) 108 9 [(3, .long 1), (0, .ref 0), (1, .long x1)] [.int r1] (m, S) (some (.int r0)) (m, S)
  refine rsn 1 (t := (11, [(5, .int r1), (3, .long 1), (0, .ref 0), (1, .long x1)], [])) rfl ?_
  have ex11 : ∀ (z2_3 : Int64) (z2_5 : Int32), (ck (¬ z2_3 = 0) (some (((((x1 * 1000)) / z2_3)).toInt32))) = some r0 → RN xs L al (Ev xs L al d) 108 35 [(1, .long x1), (3, .long z2_3)] [] (m, S) (some (.int r0)) (m, S) := by
    intro z2_3 z2_5 h
    try dsimp only at h
    refine rsn 4 (t := (41, [(1, .long x1), (3, .long z2_3)], [.long z2_3, .long ((x1 * 1000))])) rfl ?_
    obtain ⟨c3, h⟩ := ck_some h
    refine rs (t := (42, [(1, .long x1), (3, .long z2_3)], [.long ((((x1 * 1000)) / z2_3))])) rfl (by simp [stp, nxt, dJ, c3, irm, lrm]) ?_
    refine rsn 1 (t := (43, [(1, .long x1), (3, .long z2_3)], [.int (((((x1 * 1000)) / z2_3)).toInt32)])) rfl ?_
    cases h
    exact rret rfl ⟨rfl, rfl, _, _, rfl, rfl, rfl, rfl⟩
  have lp11 : ∀ (n : Nat) (y4_3 : Int64) (y4_5 : Int32), (f_SC_thousandths_L11 N S x1 m (fun (z2_3 : Int64) (z2_5 : Int32) => ck (¬ z2_3 = 0) (some (((((x1 * 1000)) / z2_3)).toInt32))) n y4_3 y4_5) = some r0 → RN xs L al (Ev xs L al d) 108 11 [(0, .ref 0), (1, .long x1), (3, .long y4_3), (5, .int y4_5)] [] (m, S) (some (.int r0)) (m, S) := by
    intro n
    induction n with
    | zero => intro y4_3 y4_5 h; exact absurd h (by simp [f_SC_thousandths_L11])
    | succ n11 ih11 =>
      intro y4_3 y4_5 h
      try dsimp only at h
      rw [f_SC_thousandths_L11] at h
      try dsimp only at h
      exact rsub [(0, .ref 0), (1, .long x1), (3, .long y4_3), (5, .int y4_5)] ⟨rfl, ⟨rfl, ⟨rfl, ⟨rfl, trivial⟩⟩⟩⟩ ⟨rfl, ⟨rfl, ⟨rfl, ⟨rfl, trivial⟩⟩⟩⟩ (ih11 y4_3 y4_5 h)
  exact rsub [(0, .ref 0), (1, .long x1), (3, .long 1), (5, .int r1)] ⟨rfl, ⟨rfl, ⟨rfl, ⟨rfl, trivial⟩⟩⟩⟩ ⟨rfl, ⟨rfl, ⟨rfl, ⟨rfl, trivial⟩⟩⟩⟩ (lp11 N 1 r1 h)
