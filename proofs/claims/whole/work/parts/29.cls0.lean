/-! The class's methods as functions (printed by wip/whole/gen_fun.py). -/
def f_SC_addBytes_L3 (N : Nat) (S : St) (x1 : Int32) (k3 : Int32 → Mm → Option (Mm)) : Nat → Int32 → Mm → Option (Mm)
  | 0, _, _ => none
  | n3 + 1, x2, m => f_SC_addBytes_L3 N S x1 k3 n3 x2 m
def f_SC_addBytes (N : Nat) (S : St) (x1 : Int32) (m : Mm) : Option (Mm) := f_SC_addBytes_L3 N S x1 (fun (z1_2 : Int32) (m1 : Mm) => some m1) N 24 m
set_option maxRecDepth 20000 in
set_option maxHeartbeats 4000000 in
theorem e_SC_addBytes {xs : Nat → Int32} {L : Nat} {al : Bool} (N : Nat) {d : Nat} (hd : 1 ≤ d) {S : St} (hSh : ShC S) {x1 : Int32} {m : Mm} {mf : Mm} (h : f_SC_addBytes N S x1 m = some mf) : Ev xs L al d 14 [.ref 0, .int x1] (m, S) none (mf, S) := by
  obtain ⟨d, rfl⟩ : ∃ e, d = e + 1 := ⟨d - 1, by omega⟩
  refine ev_of (by decide) (Nat.le_of_ble_eq_true rfl) ?_
  rw [f_SC_addBytes] at h
  show RN xs L al (Ev xs L al d) 14 0 [(0, .ref 0), (1, .int x1)] [] (m, S) none (mf, S)
  refine rsn 2 (t := (3, [(2, .int 24), (0, .ref 0), (1, .int x1)], [])) rfl ?_
  have ex3 : ∀ (z1_2 : Int32) (m1 : Mm), (some m1) = some mf → RN xs L al (Ev xs L al d) 14 46 [] [] (m1, S) none (mf, S) := by
    intro z1_2 m1 h
    try dsimp only at h
    cases h
    exact rret rfl ⟨rfl, rfl, rfl, rfl, rfl⟩
  have lp3 : ∀ (n : Nat) (y2_2 : Int32) (m2 : Mm), (f_SC_addBytes_L3 N S x1 (fun (z1_2 : Int32) (m1 : Mm) => some m1) n y2_2 m2) = some mf → RN xs L al (Ev xs L al d) 14 3 [(0, .ref 0), (1, .int x1), (2, .int y2_2)] [] (m2, S) none (mf, S) := by
    intro n
    induction n with
    | zero => intro y2_2 m2 h; exact absurd h (by simp [f_SC_addBytes_L3])
    | succ n3 ih3 =>
      intro y2_2 m2 h
      try dsimp only at h
      rw [f_SC_addBytes_L3] at h
      try dsimp only at h
      exact rsub [(0, .ref 0), (1, .int x1), (2, .int y2_2)] ⟨rfl, ⟨rfl, ⟨rfl, trivial⟩⟩⟩ ⟨rfl, ⟨rfl, ⟨rfl, trivial⟩⟩⟩ (ih3 y2_2 m2 h)
  exact rsub [(0, .ref 0), (1, .int x1), (2, .int 24)] ⟨rfl, ⟨rfl, ⟨rfl, trivial⟩⟩⟩ ⟨rfl, ⟨rfl, ⟨rfl, trivial⟩⟩⟩ (lp3 N 24 m h)
def f_SC_feed (N : Nat) (S : St) (x1 : Int32) (x2 : Int32) (x3 : Int32) (x4 : Int32) (x5 : Int32) (m : Mm) : Option (Int32 × Mm) := (if ((((mI m 0 1)) + 20)) ≤ 400 then b3 (f_SC_addBytes N S x1 m) fun m2 => b3 (f_SC_addBytes N S x2 m2) fun m3 => b3 (f_SC_addBytes N S x3 m3) fun m4 => b3 (f_SC_addBytes N S x4 m4) fun m5 => b3 (f_SC_addBytes N S x5 m5) fun m6 => some ((mI m6 0 1), m6) else some ((-1), m))
set_option maxRecDepth 20000 in
set_option maxHeartbeats 4000000 in
theorem e_SC_feed {xs : Nat → Int32} {L : Nat} {al : Bool} (N : Nat) {d : Nat} (hd : 2 ≤ d) {S : St} (hSh : ShC S) {x1 : Int32} {x2 : Int32} {x3 : Int32} {x4 : Int32} {x5 : Int32} {m : Mm} {r0 : Int32} {mf : Mm} (h : f_SC_feed N S x1 x2 x3 x4 x5 m = some (r0, mf)) : Ev xs L al d 13 [.ref 0, .int x1, .int x2, .int x3, .int x4, .int x5] (m, S) (some (.int r0)) (mf, S) := by
  obtain ⟨d, rfl⟩ : ∃ e, d = e + 1 := ⟨d - 1, by omega⟩
  refine ev_of (by decide) (Nat.le_of_ble_eq_true rfl) ?_
  rw [f_SC_feed] at h
  show RN xs L al (Ev xs L al d) 13 0 [(0, .ref 0), (1, .int x1), (2, .int x2), (3, .int x3), (4, .int x4), (5, .int x5)] [] (m, S) (some (.int r0)) (mf, S)
  refine rsn 1 (t := (1, [(0, .ref 0), (1, .int x1), (2, .int x2), (3, .int x3), (4, .int x4), (5, .int x5)], [.ref 0])) rfl ?_
  refine pgI rfl rfl rfl (hSh.1.k 0 rfl _) ?_
  show RN xs L al (Ev xs L al d) 13 4 [(0, .ref 0), (1, .int x1), (2, .int x2), (3, .int x3), (4, .int x4), (5, .int x5)] [.int ((mI m 0 1))] (m, S) (some (.int r0)) (mf, S)
  refine rsn 3 (t := (10, [(0, .ref 0), (1, .int x1), (2, .int x2), (3, .int x3), (4, .int x4), (5, .int x5)], [.int 400, .int ((((mI m 0 1)) + 20))])) rfl ?_
  by_cases c1 : ((((mI m 0 1)) + 20)) ≤ 400
  · rw [if_pos c1] at h
    refine rjt (a := (15, [(0, .ref 0), (1, .int x1), (2, .int x2), (3, .int x3), (4, .int x4), (5, .int x5)], [])) (b := (13, [(0, .ref 0), (1, .int x1), (2, .int x2), (3, .int x3), (4, .int x4), (5, .int x5)], [])) rfl rfl c1 ?_
    refine rsn 2 (t := (17, [(0, .ref 0), (1, .int x1), (2, .int x2), (3, .int x3), (4, .int x4), (5, .int x5)], [.int x1, .ref 0])) rfl ?_
    obtain ⟨m2, g2, h⟩ := b3_some h
    refine rcV 14 0 [.int x1] rfl rfl rfl (hSh.1.k 0 rfl _) (Nat.le_of_ble_eq_true rfl) rfl (e_SC_addBytes N (by omega) hSh g2) ?_
    show RN xs L al (Ev xs L al d) 13 20 [(0, .ref 0), (1, .int x1), (2, .int x2), (3, .int x3), (4, .int x4), (5, .int x5)] [] (m2, S) (some (.int r0)) (mf, S)
    refine rsn 2 (t := (22, [(0, .ref 0), (1, .int x1), (2, .int x2), (3, .int x3), (4, .int x4), (5, .int x5)], [.int x2, .ref 0])) rfl ?_
    obtain ⟨m3, g3, h⟩ := b3_some h
    refine rcV 14 0 [.int x2] rfl rfl rfl (hSh.1.k 0 rfl _) (Nat.le_of_ble_eq_true rfl) rfl (e_SC_addBytes N (by omega) hSh g3) ?_
    show RN xs L al (Ev xs L al d) 13 25 [(0, .ref 0), (1, .int x1), (2, .int x2), (3, .int x3), (4, .int x4), (5, .int x5)] [] (m3, S) (some (.int r0)) (mf, S)
    refine rsn 2 (t := (27, [(0, .ref 0), (1, .int x1), (2, .int x2), (3, .int x3), (4, .int x4), (5, .int x5)], [.int x3, .ref 0])) rfl ?_
    obtain ⟨m4, g4, h⟩ := b3_some h
    refine rcV 14 0 [.int x3] rfl rfl rfl (hSh.1.k 0 rfl _) (Nat.le_of_ble_eq_true rfl) rfl (e_SC_addBytes N (by omega) hSh g4) ?_
    show RN xs L al (Ev xs L al d) 13 30 [(0, .ref 0), (1, .int x1), (2, .int x2), (3, .int x3), (4, .int x4), (5, .int x5)] [] (m4, S) (some (.int r0)) (mf, S)
    refine rsn 2 (t := (33, [(0, .ref 0), (1, .int x1), (2, .int x2), (3, .int x3), (4, .int x4), (5, .int x5)], [.int x4, .ref 0])) rfl ?_
    obtain ⟨m5, g5, h⟩ := b3_some h
    refine rcV 14 0 [.int x4] rfl rfl rfl (hSh.1.k 0 rfl _) (Nat.le_of_ble_eq_true rfl) rfl (e_SC_addBytes N (by omega) hSh g5) ?_
    show RN xs L al (Ev xs L al d) 13 36 [(0, .ref 0), (1, .int x1), (2, .int x2), (3, .int x3), (4, .int x4), (5, .int x5)] [] (m5, S) (some (.int r0)) (mf, S)
    refine rsn 2 (t := (39, [(0, .ref 0), (1, .int x1), (2, .int x2), (3, .int x3), (4, .int x4), (5, .int x5)], [.int x5, .ref 0])) rfl ?_
    obtain ⟨m6, g6, h⟩ := b3_some h
    refine rcV 14 0 [.int x5] rfl rfl rfl (hSh.1.k 0 rfl _) (Nat.le_of_ble_eq_true rfl) rfl (e_SC_addBytes N (by omega) hSh g6) ?_
    show RN xs L al (Ev xs L al d) 13 42 [(0, .ref 0), (1, .int x1), (2, .int x2), (3, .int x3), (4, .int x4), (5, .int x5)] [] (m6, S) (some (.int r0)) (mf, S)
    refine rsn 1 (t := (43, [(0, .ref 0), (1, .int x1), (2, .int x2), (3, .int x3), (4, .int x4), (5, .int x5)], [.ref 0])) rfl ?_
    refine pgI rfl rfl rfl (hSh.1.k 0 rfl _) ?_
    show RN xs L al (Ev xs L al d) 13 46 [(0, .ref 0), (1, .int x1), (2, .int x2), (3, .int x3), (4, .int x4), (5, .int x5)] [.int ((mI m6 0 1))] (m6, S) (some (.int r0)) (mf, S)
    cases h
    exact rret rfl ⟨rfl, rfl, _, _, rfl, rfl, rfl, rfl⟩
  · rw [if_neg c1] at h
    refine rjf (a := (15, [(0, .ref 0), (1, .int x1), (2, .int x2), (3, .int x3), (4, .int x4), (5, .int x5)], [])) (b := (13, [(0, .ref 0), (1, .int x1), (2, .int x2), (3, .int x3), (4, .int x4), (5, .int x5)], [])) rfl rfl c1 ?_
    refine rsn 1 (t := (14, [(0, .ref 0), (1, .int x1), (2, .int x2), (3, .int x3), (4, .int x4), (5, .int x5)], [.int ((-1))])) rfl ?_
    cases h
    exact rret rfl ⟨rfl, rfl, _, _, rfl, rfl, rfl, rfl⟩
def f_SC_end (N : Nat) (S : St) (x1 : Int32) (m : Mm) : Option (Int32 × Mm) := (if x1 < 0 then some (0, m) else (if x1 ≤ ((mI m 0 1)) then some (1, (vI m 0 1 x1)) else some (0, m)))
set_option maxRecDepth 20000 in
set_option maxHeartbeats 4000000 in
theorem e_SC_end {xs : Nat → Int32} {L : Nat} {al : Bool} (N : Nat) {d : Nat} (hd : 1 ≤ d) {S : St} (hSh : ShC S) {x1 : Int32} {m : Mm} {r0 : Int32} {mf : Mm} (h : f_SC_end N S x1 m = some (r0, mf)) : Ev xs L al d 15 [.ref 0, .int x1] (m, S) (some (.int r0)) (mf, S) := by
  obtain ⟨d, rfl⟩ : ∃ e, d = e + 1 := ⟨d - 1, by omega⟩
  refine ev_of (by decide) (Nat.le_of_ble_eq_true rfl) ?_
  rw [f_SC_end] at h
  show RN xs L al (Ev xs L al d) 15 0 [(0, .ref 0), (1, .int x1)] [] (m, S) (some (.int r0)) (mf, S)
  refine rsn 1 (t := (1, [(0, .ref 0), (1, .int x1)], [.int x1])) rfl ?_
  by_cases c1 : x1 < 0
  · rw [if_pos c1] at h
    refine rjt (a := (12, [(0, .ref 0), (1, .int x1)], [])) (b := (4, [(0, .ref 0), (1, .int x1)], [])) rfl rfl c1 ?_
    refine rsn 1 (t := (13, [(0, .ref 0), (1, .int x1)], [.int 0])) rfl ?_
    cases h
    exact rret rfl ⟨rfl, rfl, _, _, rfl, rfl, rfl, rfl⟩
  · rw [if_neg c1] at h
    refine rjf (a := (12, [(0, .ref 0), (1, .int x1)], [])) (b := (4, [(0, .ref 0), (1, .int x1)], [])) rfl rfl c1 ?_
    refine rsn 2 (t := (6, [(0, .ref 0), (1, .int x1)], [.ref 0, .int x1])) rfl ?_
    refine pgI rfl rfl rfl (hSh.1.k 0 rfl _) ?_
    show RN xs L al (Ev xs L al d) 15 9 [(0, .ref 0), (1, .int x1)] [.int ((mI m 0 1)), .int x1] (m, S) (some (.int r0)) (mf, S)
    by_cases c2 : x1 ≤ ((mI m 0 1))
    · rw [if_pos c2] at h
      refine rjt (a := (14, [(0, .ref 0), (1, .int x1)], [])) (b := (12, [(0, .ref 0), (1, .int x1)], [])) rfl rfl c2 ?_
      refine rsn 2 (t := (16, [(0, .ref 0), (1, .int x1)], [.int x1, .ref 0])) rfl ?_
      refine ppI rfl rfl rfl rfl (hSh.1.k 0 rfl _) ?_
      refine rsn 1 (t := (20, [(0, .ref 0), (1, .int x1)], [.int 1])) rfl ?_
      cases h
      exact rret rfl ⟨rfl, rfl, _, _, rfl, rfl, rfl, rfl⟩
    · rw [if_neg c2] at h
      refine rjf (a := (14, [(0, .ref 0), (1, .int x1)], [])) (b := (12, [(0, .ref 0), (1, .int x1)], [])) rfl rfl c2 ?_
      refine rsn 1 (t := (13, [(0, .ref 0), (1, .int x1)], [.int 0])) rfl ?_
      cases h
      exact rret rfl ⟨rfl, rfl, _, _, rfl, rfl, rfl, rfl⟩
def f_Will_clear (N : Nat) (S : St) (x0 : Nat) (m : Mm) : Option (Mm) := some (vI (vI (vI (vI (vI (vI (vI m x0 0 0) x0 1 0) x0 2 0) x0 3 0) x0 4 0) x0 5 0) x0 6 0)
set_option maxRecDepth 20000 in
set_option maxHeartbeats 4000000 in
theorem e_Will_clear {xs : Nat → Int32} {L : Nat} {al : Bool} (N : Nat) {d : Nat} (hd : 1 ≤ d) {S : St} (hSh : ShC S) {x0 : Nat} (hx0 : x0 ∈ wKl) {m : Mm} {mf : Mm} (h : f_Will_clear N S x0 m = some mf) : Ev xs L al d 18 [.ref x0] (m, S) none (mf, S) := by
  obtain ⟨d, rfl⟩ : ∃ e, d = e + 1 := ⟨d - 1, by omega⟩
  refine ev_of (by decide) (Nat.le_of_ble_eq_true rfl) ?_
  rw [f_Will_clear] at h
  show RN xs L al (Ev xs L al d) 18 0 [(0, .ref x0)] [] (m, S) none (mf, S)
  refine rsn 2 (t := (2, [(0, .ref x0)], [.int 0, .ref x0])) rfl ?_
  refine ppI rfl rfl rfl rfl (hSh.kW hx0 _) ?_
  refine rsn 2 (t := (7, [(0, .ref x0)], [.int 0, .ref x0])) rfl ?_
  refine ppI rfl rfl rfl rfl (hSh.kW hx0 _) ?_
  refine rsn 2 (t := (12, [(0, .ref x0)], [.int 0, .ref x0])) rfl ?_
  refine ppI rfl rfl rfl rfl (hSh.kW hx0 _) ?_
  refine rsn 2 (t := (17, [(0, .ref x0)], [.int 0, .ref x0])) rfl ?_
  refine ppI rfl rfl rfl rfl (hSh.kW hx0 _) ?_
  refine rsn 2 (t := (22, [(0, .ref x0)], [.int 0, .ref x0])) rfl ?_
  refine ppZ rfl rfl rfl rfl (hSh.kW hx0 _) (Or.inl rfl) ?_
  refine rsn 2 (t := (27, [(0, .ref x0)], [.int 0, .ref x0])) rfl ?_
  refine ppZ rfl rfl rfl rfl (hSh.kW hx0 _) (Or.inl rfl) ?_
  refine rsn 2 (t := (32, [(0, .ref x0)], [.int 0, .ref x0])) rfl ?_
  refine ppI rfl rfl rfl rfl (hSh.kW hx0 _) ?_
  cases h
  exact rret rfl ⟨rfl, rfl, rfl, rfl, rfl⟩
def f_Reader_isLetterAt (N : Nat) (S : St) (x1 : Int32) (m : Mm) : Option (Int32) := (if x1 < 0 then some 0 else (if ((mI m 2 1)) ≤ x1 then some 0 else ck (ix x1 400) ((if ((mX m 1 x1.toNatClampNeg)) < 97 then some 0 else ck (ix x1 400) ((if 122 < ((mX m 1 x1.toNatClampNeg)) then some 0 else some 1))))))
set_option maxRecDepth 20000 in
set_option maxHeartbeats 4000000 in
theorem e_Reader_isLetterAt {xs : Nat → Int32} {L : Nat} {al : Bool} (N : Nat) {d : Nat} (hd : 1 ≤ d) {S : St} (hSh : ShC S) {x1 : Int32} {m : Mm} {r0 : Int32} (h : f_Reader_isLetterAt N S x1 m = some r0) : Ev xs L al d 20 [.ref 2, .int x1] (m, S) (some (.int r0)) (m, S) := by
  obtain ⟨d, rfl⟩ : ∃ e, d = e + 1 := ⟨d - 1, by omega⟩
  refine ev_of (by decide) (Nat.le_of_ble_eq_true rfl) ?_
  rw [f_Reader_isLetterAt] at h
  show RN xs L al (Ev xs L al d) 20 0 [(0, .ref 2), (1, .int x1)] [] (m, S) (some (.int r0)) (m, S)
  refine rsn 1 (t := (1, [(0, .ref 2), (1, .int x1)], [.int x1])) rfl ?_
  by_cases c1 : x1 < 0
  · rw [if_pos c1] at h
    refine rjt (a := (38, [(0, .ref 2), (1, .int x1)], [])) (b := (4, [(0, .ref 2), (1, .int x1)], [])) rfl rfl c1 ?_
    refine rsn 1 (t := (39, [(0, .ref 2), (1, .int x1)], [.int 0])) rfl ?_
    cases h
    exact rret rfl ⟨rfl, rfl, _, _, rfl, rfl, rfl, rfl⟩
  · rw [if_neg c1] at h
    refine rjf (a := (38, [(0, .ref 2), (1, .int x1)], [])) (b := (4, [(0, .ref 2), (1, .int x1)], [])) rfl rfl c1 ?_
    refine rsn 2 (t := (6, [(0, .ref 2), (1, .int x1)], [.ref 2, .int x1])) rfl ?_
    refine pgI rfl rfl rfl (hSh.1.k 2 rfl _) ?_
    show RN xs L al (Ev xs L al d) 20 9 [(0, .ref 2), (1, .int x1)] [.int ((mI m 2 1)), .int x1] (m, S) (some (.int r0)) (m, S)
    by_cases c2 : ((mI m 2 1)) ≤ x1
    · rw [if_pos c2] at h
      refine rjt (a := (38, [(0, .ref 2), (1, .int x1)], [])) (b := (12, [(0, .ref 2), (1, .int x1)], [])) rfl rfl c2 ?_
      refine rsn 1 (t := (39, [(0, .ref 2), (1, .int x1)], [.int 0])) rfl ?_
      cases h
      exact rret rfl ⟨rfl, rfl, _, _, rfl, rfl, rfl, rfl⟩
    · rw [if_neg c2] at h
      refine rjf (a := (38, [(0, .ref 2), (1, .int x1)], [])) (b := (12, [(0, .ref 2), (1, .int x1)], [])) rfl rfl c2 ?_
      refine rsn 1 (t := (13, [(0, .ref 2), (1, .int x1)], [.ref 2])) rfl ?_
      refine rgR rfl rfl rfl (hSh.1.k 2 rfl _) (hSh.1.r 93 rfl _) ?_
      refine rsn 1 (t := (17, [(0, .ref 2), (1, .int x1)], [.int x1, .ref 1])) rfl ?_
      obtain ⟨c3, h⟩ := ck_some h
      refine pxB rfl (Or.inl (hSh.1.k 1 rfl _)) (hSh.1.l 0 rfl _) c3 ?_
      show RN xs L al (Ev xs L al d) 20 18 [(0, .ref 2), (1, .int x1)] [.int ((mX m 1 x1.toNatClampNeg))] (m, S) (some (.int r0)) (m, S)
      refine rsn 1 (t := (20, [(0, .ref 2), (1, .int x1)], [.int 97, .int ((mX m 1 x1.toNatClampNeg))])) rfl ?_
      by_cases c4 : ((mX m 1 x1.toNatClampNeg)) < 97
      · rw [if_pos c4] at h
        refine rjt (a := (38, [(0, .ref 2), (1, .int x1)], [])) (b := (23, [(0, .ref 2), (1, .int x1)], [])) rfl rfl c4 ?_
        refine rsn 1 (t := (39, [(0, .ref 2), (1, .int x1)], [.int 0])) rfl ?_
        cases h
        exact rret rfl ⟨rfl, rfl, _, _, rfl, rfl, rfl, rfl⟩
      · rw [if_neg c4] at h
        refine rjf (a := (38, [(0, .ref 2), (1, .int x1)], [])) (b := (23, [(0, .ref 2), (1, .int x1)], [])) rfl rfl c4 ?_
        refine rsn 1 (t := (24, [(0, .ref 2), (1, .int x1)], [.ref 2])) rfl ?_
        refine rgR rfl rfl rfl (hSh.1.k 2 rfl _) (hSh.1.r 93 rfl _) ?_
        refine rsn 1 (t := (28, [(0, .ref 2), (1, .int x1)], [.int x1, .ref 1])) rfl ?_
        obtain ⟨c5, h⟩ := ck_some h
        refine pxB rfl (Or.inl (hSh.1.k 1 rfl _)) (hSh.1.l 0 rfl _) c5 ?_
        show RN xs L al (Ev xs L al d) 20 29 [(0, .ref 2), (1, .int x1)] [.int ((mX m 1 x1.toNatClampNeg))] (m, S) (some (.int r0)) (m, S)
        refine rsn 1 (t := (31, [(0, .ref 2), (1, .int x1)], [.int 122, .int ((mX m 1 x1.toNatClampNeg))])) rfl ?_
        by_cases c6 : 122 < ((mX m 1 x1.toNatClampNeg))
        · rw [if_pos c6] at h
          refine rjt (a := (38, [(0, .ref 2), (1, .int x1)], [])) (b := (34, [(0, .ref 2), (1, .int x1)], [])) rfl rfl c6 ?_
          refine rsn 1 (t := (39, [(0, .ref 2), (1, .int x1)], [.int 0])) rfl ?_
          cases h
          exact rret rfl ⟨rfl, rfl, _, _, rfl, rfl, rfl, rfl⟩
        · rw [if_neg c6] at h
          refine rjf (a := (38, [(0, .ref 2), (1, .int x1)], [])) (b := (34, [(0, .ref 2), (1, .int x1)], [])) rfl rfl c6 ?_
          refine rsn 2 (t := (39, [(0, .ref 2), (1, .int x1)], [.int 1])) rfl ?_
          cases h
          exact rret rfl ⟨rfl, rfl, _, _, rfl, rfl, rfl, rfl⟩
def f_Reader_readWord_L10 (N : Nat) (S : St) (k10 : Mm → Option (Mm)) : Nat → Mm → Option (Mm)
  | 0, _ => none
  | n10 + 1, m => f_Reader_readWord_L10 N S k10 n10 m
def f_Reader_readWord (N : Nat) (S : St) (m : Mm) : Option (Mm) := f_Reader_readWord_L10 N S (fun (m1 : Mm) => (if ((((mI m1 2 2)) - ((mI m1 2 4)))) ≤ 8 then some m1 else some (vJ m1 2 6 0))) N (vJ (vI m 2 3 1) 2 6 0)
set_option maxRecDepth 20000 in
set_option maxHeartbeats 4000000 in
theorem e_Reader_readWord {xs : Nat → Int32} {L : Nat} {al : Bool} (N : Nat) {d : Nat} (hd : 2 ≤ d) {S : St} (hSh : ShC S) {m : Mm} {mf : Mm} (h : f_Reader_readWord N S m = some mf) : Ev xs L al d 21 [.ref 2] (m, S) none (mf, S) := by
  obtain ⟨d, rfl⟩ : ∃ e, d = e + 1 := ⟨d - 1, by omega⟩
  refine ev_of (by decide) (Nat.le_of_ble_eq_true rfl) ?_
  rw [f_Reader_readWord] at h
  show RN xs L al (Ev xs L al d) 21 0 [(0, .ref 2)] [] (m, S) none (mf, S)
  refine rsn 2 (t := (2, [(0, .ref 2)], [.int 1, .ref 2])) rfl ?_
  refine ppI rfl rfl rfl rfl (hSh.1.k 2 rfl _) ?_
  refine rsn 2 (t := (7, [(0, .ref 2)], [.long 0, .ref 2])) rfl ?_
  refine ppJ rfl rfl rfl rfl (hSh.1.k 2 rfl _) ?_
  have ex10 : ∀ (m1 : Mm), ((if ((((mI m1 2 2)) - ((mI m1 2 4)))) ≤ 8 then some m1 else some (vJ m1 2 6 0))) = some mf → RN xs L al (Ev xs L al d) 21 67 [(0, .ref 2)] [] (m1, S) none (mf, S) := by
    intro m1 h
    try dsimp only at h
    refine rsn 1 (t := (68, [(0, .ref 2)], [.ref 2])) rfl ?_
    refine pgI rfl rfl rfl (hSh.1.k 2 rfl _) ?_
    show RN xs L al (Ev xs L al d) 21 71 [(0, .ref 2)] [.int ((mI m1 2 2))] (m1, S) none (mf, S)
    refine rsn 1 (t := (72, [(0, .ref 2)], [.ref 2, .int ((mI m1 2 2))])) rfl ?_
    refine pgI rfl rfl rfl (hSh.1.k 2 rfl _) ?_
    show RN xs L al (Ev xs L al d) 21 75 [(0, .ref 2)] [.int ((mI m1 2 4)), .int ((mI m1 2 2))] (m1, S) none (mf, S)
    refine rsn 2 (t := (78, [(0, .ref 2)], [.int 8, .int ((((mI m1 2 2)) - ((mI m1 2 4))))])) rfl ?_
    by_cases c2 : ((((mI m1 2 2)) - ((mI m1 2 4)))) ≤ 8
    · rw [if_pos c2] at h
      refine rjt (a := (86, [(0, .ref 2)], [])) (b := (81, [(0, .ref 2)], [])) rfl rfl c2 ?_
      cases h
      exact rret rfl ⟨rfl, rfl, rfl, rfl, rfl⟩
    · rw [if_neg c2] at h
      refine rjf (a := (86, [(0, .ref 2)], [])) (b := (81, [(0, .ref 2)], [])) rfl rfl c2 ?_
      refine rsn 2 (t := (83, [(0, .ref 2)], [.long 0, .ref 2])) rfl ?_
      refine ppJ rfl rfl rfl rfl (hSh.1.k 2 rfl _) ?_
      cases h
      exact rret rfl ⟨rfl, rfl, rfl, rfl, rfl⟩
  have lp10 : ∀ (n : Nat) (m3 : Mm), (f_Reader_readWord_L10 N S (fun (m1 : Mm) => (if ((((mI m1 2 2)) - ((mI m1 2 4)))) ≤ 8 then some m1 else some (vJ m1 2 6 0))) n m3) = some mf → RN xs L al (Ev xs L al d) 21 10 [(0, .ref 2)] [] (m3, S) none (mf, S) := by
    intro n
    induction n with
    | zero => intro m3 h; exact absurd h (by simp [f_Reader_readWord_L10])
    | succ n10 ih10 =>
      intro m3 h
      try dsimp only at h
      rw [f_Reader_readWord_L10] at h
      try dsimp only at h
      exact rsub [(0, .ref 2)] ⟨rfl, trivial⟩ ⟨rfl, trivial⟩ (ih10 m3 h)
  exact rsub [(0, .ref 2)] ⟨rfl, trivial⟩ ⟨rfl, trivial⟩ (lp10 N (vJ (vI m 2 3 1) 2 6 0) h)
def f_Reader_isDigitAt (N : Nat) (S : St) (x1 : Int32) (m : Mm) : Option (Int32) := (if x1 < 0 then some 0 else (if ((mI m 2 1)) ≤ x1 then some 0 else ck (ix x1 400) ((if ((mX m 1 x1.toNatClampNeg)) < 48 then some 0 else ck (ix x1 400) ((if 57 < ((mX m 1 x1.toNatClampNeg)) then some 0 else some 1))))))
set_option maxRecDepth 20000 in
set_option maxHeartbeats 4000000 in
theorem e_Reader_isDigitAt {xs : Nat → Int32} {L : Nat} {al : Bool} (N : Nat) {d : Nat} (hd : 1 ≤ d) {S : St} (hSh : ShC S) {x1 : Int32} {m : Mm} {r0 : Int32} (h : f_Reader_isDigitAt N S x1 m = some r0) : Ev xs L al d 22 [.ref 2, .int x1] (m, S) (some (.int r0)) (m, S) := by
  obtain ⟨d, rfl⟩ : ∃ e, d = e + 1 := ⟨d - 1, by omega⟩
  refine ev_of (by decide) (Nat.le_of_ble_eq_true rfl) ?_
  rw [f_Reader_isDigitAt] at h
  show RN xs L al (Ev xs L al d) 22 0 [(0, .ref 2), (1, .int x1)] [] (m, S) (some (.int r0)) (m, S)
  refine rsn 1 (t := (1, [(0, .ref 2), (1, .int x1)], [.int x1])) rfl ?_
  by_cases c1 : x1 < 0
  · rw [if_pos c1] at h
    refine rjt (a := (38, [(0, .ref 2), (1, .int x1)], [])) (b := (4, [(0, .ref 2), (1, .int x1)], [])) rfl rfl c1 ?_
    refine rsn 1 (t := (39, [(0, .ref 2), (1, .int x1)], [.int 0])) rfl ?_
    cases h
    exact rret rfl ⟨rfl, rfl, _, _, rfl, rfl, rfl, rfl⟩
  · rw [if_neg c1] at h
    refine rjf (a := (38, [(0, .ref 2), (1, .int x1)], [])) (b := (4, [(0, .ref 2), (1, .int x1)], [])) rfl rfl c1 ?_
    refine rsn 2 (t := (6, [(0, .ref 2), (1, .int x1)], [.ref 2, .int x1])) rfl ?_
    refine pgI rfl rfl rfl (hSh.1.k 2 rfl _) ?_
    show RN xs L al (Ev xs L al d) 22 9 [(0, .ref 2), (1, .int x1)] [.int ((mI m 2 1)), .int x1] (m, S) (some (.int r0)) (m, S)
    by_cases c2 : ((mI m 2 1)) ≤ x1
    · rw [if_pos c2] at h
      refine rjt (a := (38, [(0, .ref 2), (1, .int x1)], [])) (b := (12, [(0, .ref 2), (1, .int x1)], [])) rfl rfl c2 ?_
      refine rsn 1 (t := (39, [(0, .ref 2), (1, .int x1)], [.int 0])) rfl ?_
      cases h
      exact rret rfl ⟨rfl, rfl, _, _, rfl, rfl, rfl, rfl⟩
    · rw [if_neg c2] at h
      refine rjf (a := (38, [(0, .ref 2), (1, .int x1)], [])) (b := (12, [(0, .ref 2), (1, .int x1)], [])) rfl rfl c2 ?_
      refine rsn 1 (t := (13, [(0, .ref 2), (1, .int x1)], [.ref 2])) rfl ?_
      refine rgR rfl rfl rfl (hSh.1.k 2 rfl _) (hSh.1.r 93 rfl _) ?_
      refine rsn 1 (t := (17, [(0, .ref 2), (1, .int x1)], [.int x1, .ref 1])) rfl ?_
      obtain ⟨c3, h⟩ := ck_some h
      refine pxB rfl (Or.inl (hSh.1.k 1 rfl _)) (hSh.1.l 0 rfl _) c3 ?_
      show RN xs L al (Ev xs L al d) 22 18 [(0, .ref 2), (1, .int x1)] [.int ((mX m 1 x1.toNatClampNeg))] (m, S) (some (.int r0)) (m, S)
      refine rsn 1 (t := (20, [(0, .ref 2), (1, .int x1)], [.int 48, .int ((mX m 1 x1.toNatClampNeg))])) rfl ?_
      by_cases c4 : ((mX m 1 x1.toNatClampNeg)) < 48
      · rw [if_pos c4] at h
        refine rjt (a := (38, [(0, .ref 2), (1, .int x1)], [])) (b := (23, [(0, .ref 2), (1, .int x1)], [])) rfl rfl c4 ?_
        refine rsn 1 (t := (39, [(0, .ref 2), (1, .int x1)], [.int 0])) rfl ?_
        cases h
        exact rret rfl ⟨rfl, rfl, _, _, rfl, rfl, rfl, rfl⟩
      · rw [if_neg c4] at h
        refine rjf (a := (38, [(0, .ref 2), (1, .int x1)], [])) (b := (23, [(0, .ref 2), (1, .int x1)], [])) rfl rfl c4 ?_
        refine rsn 1 (t := (24, [(0, .ref 2), (1, .int x1)], [.ref 2])) rfl ?_
        refine rgR rfl rfl rfl (hSh.1.k 2 rfl _) (hSh.1.r 93 rfl _) ?_
        refine rsn 1 (t := (28, [(0, .ref 2), (1, .int x1)], [.int x1, .ref 1])) rfl ?_
        obtain ⟨c5, h⟩ := ck_some h
        refine pxB rfl (Or.inl (hSh.1.k 1 rfl _)) (hSh.1.l 0 rfl _) c5 ?_
        show RN xs L al (Ev xs L al d) 22 29 [(0, .ref 2), (1, .int x1)] [.int ((mX m 1 x1.toNatClampNeg))] (m, S) (some (.int r0)) (m, S)
        refine rsn 1 (t := (31, [(0, .ref 2), (1, .int x1)], [.int 57, .int ((mX m 1 x1.toNatClampNeg))])) rfl ?_
        by_cases c6 : 57 < ((mX m 1 x1.toNatClampNeg))
        · rw [if_pos c6] at h
          refine rjt (a := (38, [(0, .ref 2), (1, .int x1)], [])) (b := (34, [(0, .ref 2), (1, .int x1)], [])) rfl rfl c6 ?_
          refine rsn 1 (t := (39, [(0, .ref 2), (1, .int x1)], [.int 0])) rfl ?_
          cases h
          exact rret rfl ⟨rfl, rfl, _, _, rfl, rfl, rfl, rfl⟩
        · rw [if_neg c6] at h
          refine rjf (a := (38, [(0, .ref 2), (1, .int x1)], [])) (b := (34, [(0, .ref 2), (1, .int x1)], [])) rfl rfl c6 ?_
          refine rsn 2 (t := (39, [(0, .ref 2), (1, .int x1)], [.int 1])) rfl ?_
          cases h
          exact rret rfl ⟨rfl, rfl, _, _, rfl, rfl, rfl, rfl⟩
def f_Reader_readNumber_L10 (N : Nat) (S : St) (k10 : Mm → Option (Mm)) : Nat → Mm → Option (Mm)
  | 0, _ => none
  | n10 + 1, m => f_Reader_readNumber_L10 N S k10 n10 m
def f_Reader_readNumber (N : Nat) (S : St) (m : Mm) : Option (Mm) := f_Reader_readNumber_L10 N S (fun (m1 : Mm) => some m1) N (vI (vI m 2 3 2) 2 5 0)
set_option maxRecDepth 20000 in
set_option maxHeartbeats 4000000 in
theorem e_Reader_readNumber {xs : Nat → Int32} {L : Nat} {al : Bool} (N : Nat) {d : Nat} (hd : 2 ≤ d) {S : St} (hSh : ShC S) {m : Mm} {mf : Mm} (h : f_Reader_readNumber N S m = some mf) : Ev xs L al d 23 [.ref 2] (m, S) none (mf, S) := by
  obtain ⟨d, rfl⟩ : ∃ e, d = e + 1 := ⟨d - 1, by omega⟩
  refine ev_of (by decide) (Nat.le_of_ble_eq_true rfl) ?_
  rw [f_Reader_readNumber] at h
  show RN xs L al (Ev xs L al d) 23 0 [(0, .ref 2)] [] (m, S) none (mf, S)
  refine rsn 2 (t := (2, [(0, .ref 2)], [.int 2, .ref 2])) rfl ?_
  refine ppI rfl rfl rfl rfl (hSh.1.k 2 rfl _) ?_
  refine rsn 2 (t := (7, [(0, .ref 2)], [.int 0, .ref 2])) rfl ?_
  refine ppI rfl rfl rfl rfl (hSh.1.k 2 rfl _) ?_
  have ex10 : ∀ (m1 : Mm), (some m1) = some mf → RN xs L al (Ev xs L al d) 23 75 [] [] (m1, S) none (mf, S) := by
    intro m1 h
    try dsimp only at h
    cases h
    exact rret rfl ⟨rfl, rfl, rfl, rfl, rfl⟩
  have lp10 : ∀ (n : Nat) (m2 : Mm), (f_Reader_readNumber_L10 N S (fun (m1 : Mm) => some m1) n m2) = some mf → RN xs L al (Ev xs L al d) 23 10 [(0, .ref 2)] [] (m2, S) none (mf, S) := by
    intro n
    induction n with
    | zero => intro m2 h; exact absurd h (by simp [f_Reader_readNumber_L10])
    | succ n10 ih10 =>
      intro m2 h
      try dsimp only at h
      rw [f_Reader_readNumber_L10] at h
      try dsimp only at h
      exact rsub [(0, .ref 2)] ⟨rfl, trivial⟩ ⟨rfl, trivial⟩ (ih10 m2 h)
  exact rsub [(0, .ref 2)] ⟨rfl, trivial⟩ ⟨rfl, trivial⟩ (lp10 N (vI (vI m 2 3 2) 2 5 0) h)
def f_Reader_step_L0 (N : Nat) (S : St) (k0 : Mm → Option (Mm)) : Nat → Mm → Option (Mm)
  | 0, _ => none
  | n0 + 1, m => f_Reader_step_L0 N S k0 n0 m
def f_Reader_step (N : Nat) (S : St) (m : Mm) : Option (Mm) := f_Reader_step_L0 N S (fun (m1 : Mm) => (if ((mI m1 2 2)) < ((mI m1 2 1)) then b1 (f_Reader_isLetterAt N S ((mI m1 2 2)) (vI m1 2 4 ((mI m1 2 2)))) fun r3 => (if r3 = 0 then b1 (f_Reader_isDigitAt N S ((mI m1 2 2)) (vI m1 2 4 ((mI m1 2 2)))) fun r5 => (if r5 = 0 then ck (ix ((mI m1 2 2)) 400) ((jn (fun (s8 : Int32) => some (vI (vI (vI m1 2 4 ((mI m1 2 2))) 2 3 s8) 2 2 ((((mI m1 2 2)) + 1)))) (fun j153 => if ((mX m1 1 (((mI m1 2 2)).toNatClampNeg))) = 44 then j153 3 else ck (ix ((mI m1 2 2)) 400) ((if ((mX m1 1 (((mI m1 2 2)).toNatClampNeg))) = 59 then j153 4 else j153 5))))) else b3 (f_Reader_readNumber N S (vI m1 2 4 ((mI m1 2 2)))) fun m12 => some m12) else b3 (f_Reader_readWord N S (vI m1 2 4 ((mI m1 2 2)))) fun m13 => some m13) else some (vI (vI m1 2 4 ((mI m1 2 2))) 2 3 0))) N m
set_option maxRecDepth 20000 in
set_option maxHeartbeats 4000000 in
theorem e_Reader_step {xs : Nat → Int32} {L : Nat} {al : Bool} (N : Nat) {d : Nat} (hd : 3 ≤ d) {S : St} (hSh : ShC S) {m : Mm} {mf : Mm} (h : f_Reader_step N S m = some mf) : Ev xs L al d 19 [.ref 2] (m, S) none (mf, S) := by
  obtain ⟨d, rfl⟩ : ∃ e, d = e + 1 := ⟨d - 1, by omega⟩
  refine ev_of (by decide) (Nat.le_of_ble_eq_true rfl) ?_
  rw [f_Reader_step] at h
  show RN xs L al (Ev xs L al d) 19 0 [(0, .ref 2)] [] (m, S) none (mf, S)
  have ex0 : ∀ (m1 : Mm), ((if ((mI m1 2 2)) < ((mI m1 2 1)) then b1 (f_Reader_isLetterAt N S ((mI m1 2 2)) (vI m1 2 4 ((mI m1 2 2)))) fun r3 => (if r3 = 0 then b1 (f_Reader_isDigitAt N S ((mI m1 2 2)) (vI m1 2 4 ((mI m1 2 2)))) fun r5 => (if r5 = 0 then ck (ix ((mI m1 2 2)) 400) ((jn (fun (s8 : Int32) => some (vI (vI (vI m1 2 4 ((mI m1 2 2))) 2 3 s8) 2 2 ((((mI m1 2 2)) + 1)))) (fun j153 => if ((mX m1 1 (((mI m1 2 2)).toNatClampNeg))) = 44 then j153 3 else ck (ix ((mI m1 2 2)) 400) ((if ((mX m1 1 (((mI m1 2 2)).toNatClampNeg))) = 59 then j153 4 else j153 5))))) else b3 (f_Reader_readNumber N S (vI m1 2 4 ((mI m1 2 2)))) fun m12 => some m12) else b3 (f_Reader_readWord N S (vI m1 2 4 ((mI m1 2 2)))) fun m13 => some m13) else some (vI (vI m1 2 4 ((mI m1 2 2))) 2 3 0))) = some mf → RN xs L al (Ev xs L al d) 19 52 [(0, .ref 2)] [] (m1, S) none (mf, S) := by
    intro m1 h
    try dsimp only at h
    refine rsn 2 (t := (54, [(0, .ref 2)], [.ref 2, .ref 2])) rfl ?_
    refine pgI rfl rfl rfl (hSh.1.k 2 rfl _) ?_
    show RN xs L al (Ev xs L al d) 19 57 [(0, .ref 2)] [.int ((mI m1 2 2)), .ref 2] (m1, S) none (mf, S)
    refine ppI rfl rfl rfl rfl (hSh.1.k 2 rfl _) ?_
    refine rsn 1 (t := (61, [(0, .ref 2)], [.ref 2])) rfl ?_
    refine pgI rfl rfl rfl (hSh.1.k 2 rfl _) ?_
    show RN xs L al (Ev xs L al d) 19 64 [(0, .ref 2)] [.int ((mI m1 2 2))] ((vI m1 2 4 ((mI m1 2 2))), S) none (mf, S)
    refine rsn 1 (t := (65, [(0, .ref 2)], [.ref 2, .int ((mI m1 2 2))])) rfl ?_
    refine pgI rfl rfl rfl (hSh.1.k 2 rfl _) ?_
    show RN xs L al (Ev xs L al d) 19 68 [(0, .ref 2)] [.int ((mI m1 2 1)), .int ((mI m1 2 2))] ((vI m1 2 4 ((mI m1 2 2))), S) none (mf, S)
    by_cases c2 : ((mI m1 2 2)) < ((mI m1 2 1))
    · rw [if_pos c2] at h
      refine rjt (a := (79, [(0, .ref 2)], [])) (b := (71, [(0, .ref 2)], [])) rfl rfl c2 ?_
      refine rsn 2 (t := (81, [(0, .ref 2)], [.ref 2, .ref 2])) rfl ?_
      refine pgI rfl rfl rfl (hSh.1.k 2 rfl _) ?_
      show RN xs L al (Ev xs L al d) 19 84 [(0, .ref 2)] [.int ((mI m1 2 2)), .ref 2] ((vI m1 2 4 ((mI m1 2 2))), S) none (mf, S)
      obtain ⟨r3, g3, h⟩ := b1_some h
      refine rcV 20 2 [.int ((mI m1 2 2))] rfl rfl rfl (hSh.1.k 2 rfl _) (Nat.le_of_ble_eq_true rfl) rfl (e_Reader_isLetterAt N (by omega) hSh g3) ?_
      show RN xs L al (Ev xs L al d) 19 87 [(0, .ref 2)] [.int r3] ((vI m1 2 4 ((mI m1 2 2))), S) none (mf, S)
      by_cases c4 : r3 = 0
      · rw [if_pos c4] at h
        refine rjt (a := (97, [(0, .ref 2)], [])) (b := (90, [(0, .ref 2)], [])) rfl rfl c4 ?_
        refine rsn 2 (t := (99, [(0, .ref 2)], [.ref 2, .ref 2])) rfl ?_
        refine pgI rfl rfl rfl (hSh.1.k 2 rfl _) ?_
        show RN xs L al (Ev xs L al d) 19 102 [(0, .ref 2)] [.int ((mI m1 2 2)), .ref 2] ((vI m1 2 4 ((mI m1 2 2))), S) none (mf, S)
        obtain ⟨r5, g5, h⟩ := b1_some h
        refine rcV 22 2 [.int ((mI m1 2 2))] rfl rfl rfl (hSh.1.k 2 rfl _) (Nat.le_of_ble_eq_true rfl) rfl (e_Reader_isDigitAt N (by omega) hSh g5) ?_
        show RN xs L al (Ev xs L al d) 19 105 [(0, .ref 2)] [.int r5] ((vI m1 2 4 ((mI m1 2 2))), S) none (mf, S)
        by_cases c6 : r5 = 0
        · rw [if_pos c6] at h
          refine rjt (a := (115, [(0, .ref 2)], [])) (b := (108, [(0, .ref 2)], [])) rfl rfl c6 ?_
          refine rsn 2 (t := (117, [(0, .ref 2)], [.ref 2, .ref 2])) rfl ?_
          refine rgR rfl rfl rfl (hSh.1.k 2 rfl _) (hSh.1.r 93 rfl _) ?_
          refine rsn 1 (t := (121, [(0, .ref 2)], [.ref 2, .ref 1, .ref 2])) rfl ?_
          refine pgI rfl rfl rfl (hSh.1.k 2 rfl _) ?_
          show RN xs L al (Ev xs L al d) 19 124 [(0, .ref 2)] [.int ((mI m1 2 2)), .ref 1, .ref 2] ((vI m1 2 4 ((mI m1 2 2))), S) none (mf, S)
          obtain ⟨c7, h⟩ := ck_some h
          refine pxB rfl (Or.inl (hSh.1.k 1 rfl _)) (hSh.1.l 0 rfl _) c7 ?_
          show RN xs L al (Ev xs L al d) 19 125 [(0, .ref 2)] [.int ((mX m1 1 (((mI m1 2 2)).toNatClampNeg))), .ref 2] ((vI m1 2 4 ((mI m1 2 2))), S) none (mf, S)
          refine rsn 1 (t := (127, [(0, .ref 2)], [.int 44, .int ((mX m1 1 (((mI m1 2 2)).toNatClampNeg))), .ref 2])) rfl ?_
          have jp153 : ∀ (s8 : Int32), (some (vI (vI (vI m1 2 4 ((mI m1 2 2))) 2 3 s8) 2 2 ((((mI m1 2 2)) + 1)))) = some mf → RN xs L al (Ev xs L al d) 19 153 [(0, .ref 2)] [.int s8, .ref 2] ((vI m1 2 4 ((mI m1 2 2))), S) none (mf, S) := by
            intro s8 h
            try dsimp only at h
            refine ppI rfl rfl rfl rfl (hSh.1.k 2 rfl _) ?_
            refine rsn 2 (t := (158, [(0, .ref 2)], [.ref 2, .ref 2])) rfl ?_
            refine pgI rfl rfl rfl (hSh.1.k 2 rfl _) ?_
            show RN xs L al (Ev xs L al d) 19 161 [(0, .ref 2)] [.int ((mI m1 2 2)), .ref 2] ((vI (vI m1 2 4 ((mI m1 2 2))) 2 3 s8), S) none (mf, S)
            refine rsn 2 (t := (163, [(0, .ref 2)], [.int ((((mI m1 2 2)) + 1)), .ref 2])) rfl ?_
            refine ppI rfl rfl rfl rfl (hSh.1.k 2 rfl _) ?_
            cases h
            exact rret rfl ⟨rfl, rfl, rfl, rfl, rfl⟩
          rw [jn] at h
          try dsimp only at h
          by_cases c9 : ((mX m1 1 (((mI m1 2 2)).toNatClampNeg))) = 44
          · rw [if_pos c9] at h
            refine rjf (a := (134, [(0, .ref 2)], [.ref 2])) (b := (130, [(0, .ref 2)], [.ref 2])) rfl rfl (fun q => q c9) ?_
            refine rsn 2 (t := (153, [(0, .ref 2)], [.int 3, .ref 2])) rfl ?_
            exact rsub [(0, .ref 2)] ⟨rfl, trivial⟩ ⟨rfl, trivial⟩ (jp153 3 h)
          · rw [if_neg c9] at h
            refine rjt (a := (134, [(0, .ref 2)], [.ref 2])) (b := (130, [(0, .ref 2)], [.ref 2])) rfl rfl c9 ?_
            refine rsn 1 (t := (135, [(0, .ref 2)], [.ref 2, .ref 2])) rfl ?_
            refine rgR rfl rfl rfl (hSh.1.k 2 rfl _) (hSh.1.r 93 rfl _) ?_
            refine rsn 1 (t := (139, [(0, .ref 2)], [.ref 2, .ref 1, .ref 2])) rfl ?_
            refine pgI rfl rfl rfl (hSh.1.k 2 rfl _) ?_
            show RN xs L al (Ev xs L al d) 19 142 [(0, .ref 2)] [.int ((mI m1 2 2)), .ref 1, .ref 2] ((vI m1 2 4 ((mI m1 2 2))), S) none (mf, S)
            obtain ⟨c10, h⟩ := ck_some h
            refine pxB rfl (Or.inl (hSh.1.k 1 rfl _)) (hSh.1.l 0 rfl _) c10 ?_
            show RN xs L al (Ev xs L al d) 19 143 [(0, .ref 2)] [.int ((mX m1 1 (((mI m1 2 2)).toNatClampNeg))), .ref 2] ((vI m1 2 4 ((mI m1 2 2))), S) none (mf, S)
            refine rsn 1 (t := (145, [(0, .ref 2)], [.int 59, .int ((mX m1 1 (((mI m1 2 2)).toNatClampNeg))), .ref 2])) rfl ?_
            by_cases c11 : ((mX m1 1 (((mI m1 2 2)).toNatClampNeg))) = 59
            · rw [if_pos c11] at h
              refine rjf (a := (152, [(0, .ref 2)], [.ref 2])) (b := (148, [(0, .ref 2)], [.ref 2])) rfl rfl (fun q => q c11) ?_
              refine rsn 2 (t := (153, [(0, .ref 2)], [.int 4, .ref 2])) rfl ?_
              exact rsub [(0, .ref 2)] ⟨rfl, trivial⟩ ⟨rfl, trivial⟩ (jp153 4 h)
            · rw [if_neg c11] at h
              refine rjt (a := (152, [(0, .ref 2)], [.ref 2])) (b := (148, [(0, .ref 2)], [.ref 2])) rfl rfl c11 ?_
              refine rsn 1 (t := (153, [(0, .ref 2)], [.int 5, .ref 2])) rfl ?_
              exact rsub [(0, .ref 2)] ⟨rfl, trivial⟩ ⟨rfl, trivial⟩ (jp153 5 h)
        · rw [if_neg c6] at h
          refine rjf (a := (115, [(0, .ref 2)], [])) (b := (108, [(0, .ref 2)], [])) rfl rfl c6 ?_
          refine rsn 1 (t := (109, [(0, .ref 2)], [.ref 2])) rfl ?_
          obtain ⟨m12, g12, h⟩ := b3_some h
          refine rcV 23 2 [] rfl rfl rfl (hSh.1.k 2 rfl _) (Nat.le_of_ble_eq_true rfl) rfl (e_Reader_readNumber N (by omega) hSh g12) ?_
          show RN xs L al (Ev xs L al d) 19 112 [(0, .ref 2)] [] (m12, S) none (mf, S)
          refine rsn 1 (t := (166, [(0, .ref 2)], [])) rfl ?_
          cases h
          exact rret rfl ⟨rfl, rfl, rfl, rfl, rfl⟩
      · rw [if_neg c4] at h
        refine rjf (a := (97, [(0, .ref 2)], [])) (b := (90, [(0, .ref 2)], [])) rfl rfl c4 ?_
        refine rsn 1 (t := (91, [(0, .ref 2)], [.ref 2])) rfl ?_
        obtain ⟨m13, g13, h⟩ := b3_some h
        refine rcV 21 2 [] rfl rfl rfl (hSh.1.k 2 rfl _) (Nat.le_of_ble_eq_true rfl) rfl (e_Reader_readWord N (by omega) hSh g13) ?_
        show RN xs L al (Ev xs L al d) 19 94 [(0, .ref 2)] [] (m13, S) none (mf, S)
        refine rsn 1 (t := (166, [(0, .ref 2)], [])) rfl ?_
        cases h
        exact rret rfl ⟨rfl, rfl, rfl, rfl, rfl⟩
    · rw [if_neg c2] at h
      refine rjf (a := (79, [(0, .ref 2)], [])) (b := (71, [(0, .ref 2)], [])) rfl rfl c2 ?_
      refine rsn 2 (t := (73, [(0, .ref 2)], [.int 0, .ref 2])) rfl ?_
      refine ppI rfl rfl rfl rfl (hSh.1.k 2 rfl _) ?_
      refine rsn 1 (t := (166, [(0, .ref 2)], [])) rfl ?_
      cases h
      exact rret rfl ⟨rfl, rfl, rfl, rfl, rfl⟩
  have lp0 : ∀ (n : Nat) (m14 : Mm), (f_Reader_step_L0 N S (fun (m1 : Mm) => (if ((mI m1 2 2)) < ((mI m1 2 1)) then b1 (f_Reader_isLetterAt N S ((mI m1 2 2)) (vI m1 2 4 ((mI m1 2 2)))) fun r3 => (if r3 = 0 then b1 (f_Reader_isDigitAt N S ((mI m1 2 2)) (vI m1 2 4 ((mI m1 2 2)))) fun r5 => (if r5 = 0 then ck (ix ((mI m1 2 2)) 400) ((jn (fun (s8 : Int32) => some (vI (vI (vI m1 2 4 ((mI m1 2 2))) 2 3 s8) 2 2 ((((mI m1 2 2)) + 1)))) (fun j153 => if ((mX m1 1 (((mI m1 2 2)).toNatClampNeg))) = 44 then j153 3 else ck (ix ((mI m1 2 2)) 400) ((if ((mX m1 1 (((mI m1 2 2)).toNatClampNeg))) = 59 then j153 4 else j153 5))))) else b3 (f_Reader_readNumber N S (vI m1 2 4 ((mI m1 2 2)))) fun m12 => some m12) else b3 (f_Reader_readWord N S (vI m1 2 4 ((mI m1 2 2)))) fun m13 => some m13) else some (vI (vI m1 2 4 ((mI m1 2 2))) 2 3 0))) n m14) = some mf → RN xs L al (Ev xs L al d) 19 0 [(0, .ref 2)] [] (m14, S) none (mf, S) := by
    intro n
    induction n with
    | zero => intro m14 h; exact absurd h (by simp [f_Reader_step_L0])
    | succ n0 ih0 =>
      intro m14 h
      try dsimp only at h
      rw [f_Reader_step_L0] at h
      try dsimp only at h
      exact rsub [(0, .ref 2)] ⟨rfl, trivial⟩ ⟨rfl, trivial⟩ (ih0 m14 h)
  exact rsub [(0, .ref 2)] ⟨rfl, trivial⟩ ⟨rfl, trivial⟩ (lp0 N m h)
def f_Will_early (N : Nat) (S : St) (x0 : Nat) (m : Mm) : Option (Int32) := some ((((((isl 1 ((mI m x0 0)))) - 1)) &&& ((((mI m x0 6)) ^^^ ((-1))))))
set_option maxRecDepth 20000 in
set_option maxHeartbeats 4000000 in
theorem e_Will_early {xs : Nat → Int32} {L : Nat} {al : Bool} (N : Nat) {d : Nat} (hd : 1 ≤ d) {S : St} (hSh : ShC S) {x0 : Nat} (hx0 : x0 ∈ wKl) {m : Mm} {r0 : Int32} (h : f_Will_early N S x0 m = some r0) : Ev xs L al d 24 [.ref x0] (m, S) (some (.int r0)) (m, S) := by
  obtain ⟨d, rfl⟩ : ∃ e, d = e + 1 := ⟨d - 1, by omega⟩
  refine ev_of (by decide) (Nat.le_of_ble_eq_true rfl) ?_
  rw [f_Will_early] at h
  show RN xs L al (Ev xs L al d) 24 0 [(0, .ref x0)] [] (m, S) (some (.int r0)) (m, S)
  refine rsn 2 (t := (2, [(0, .ref x0)], [.ref x0, .int 1])) rfl ?_
  refine pgI rfl rfl rfl (hSh.kW hx0 _) ?_
  show RN xs L al (Ev xs L al d) 24 5 [(0, .ref x0)] [.int ((mI m x0 0)), .int 1] (m, S) (some (.int r0)) (m, S)
  refine rsn 4 (t := (9, [(0, .ref x0)], [.ref x0, .int ((((isl 1 ((mI m x0 0)))) - 1))])) rfl ?_
  refine pgI rfl rfl rfl (hSh.kW hx0 _) ?_
  show RN xs L al (Ev xs L al d) 24 12 [(0, .ref x0)] [.int ((mI m x0 6)), .int ((((isl 1 ((mI m x0 0)))) - 1))] (m, S) (some (.int r0)) (m, S)
  refine rsn 3 (t := (15, [(0, .ref x0)], [.int ((((((isl 1 ((mI m x0 0)))) - 1)) &&& ((((mI m x0 6)) ^^^ ((-1))))))])) rfl ?_
  cases h
  exact rret rfl ⟨rfl, rfl, _, _, rfl, rfl, rfl, rfl⟩
def f_Will_hasRoomForHeir (N : Nat) (S : St) (x0 : Nat) (m : Mm) : Option (Int32) := (if 3 ≤ ((mI m x0 0)) then some 0 else some 1)
set_option maxRecDepth 20000 in
set_option maxHeartbeats 4000000 in
theorem e_Will_hasRoomForHeir {xs : Nat → Int32} {L : Nat} {al : Bool} (N : Nat) {d : Nat} (hd : 1 ≤ d) {S : St} (hSh : ShC S) {x0 : Nat} (hx0 : x0 ∈ wKl) {m : Mm} {r0 : Int32} (h : f_Will_hasRoomForHeir N S x0 m = some r0) : Ev xs L al d 27 [.ref x0] (m, S) (some (.int r0)) (m, S) := by
  obtain ⟨d, rfl⟩ : ∃ e, d = e + 1 := ⟨d - 1, by omega⟩
  refine ev_of (by decide) (Nat.le_of_ble_eq_true rfl) ?_
  rw [f_Will_hasRoomForHeir] at h
  show RN xs L al (Ev xs L al d) 27 0 [(0, .ref x0)] [] (m, S) (some (.int r0)) (m, S)
  refine rsn 1 (t := (1, [(0, .ref x0)], [.ref x0])) rfl ?_
  refine pgI rfl rfl rfl (hSh.kW hx0 _) ?_
  show RN xs L al (Ev xs L al d) 27 4 [(0, .ref x0)] [.int ((mI m x0 0))] (m, S) (some (.int r0)) (m, S)
  refine rsn 1 (t := (5, [(0, .ref x0)], [.int 3, .int ((mI m x0 0))])) rfl ?_
  by_cases c1 : 3 ≤ ((mI m x0 0))
  · rw [if_pos c1] at h
    refine rjt (a := (12, [(0, .ref x0)], [])) (b := (8, [(0, .ref x0)], [])) rfl rfl c1 ?_
    refine rsn 1 (t := (13, [(0, .ref x0)], [.int 0])) rfl ?_
    cases h
    exact rret rfl ⟨rfl, rfl, _, _, rfl, rfl, rfl, rfl⟩
  · rw [if_neg c1] at h
    refine rjf (a := (12, [(0, .ref x0)], [])) (b := (8, [(0, .ref x0)], [])) rfl rfl c1 ?_
    refine rsn 2 (t := (13, [(0, .ref x0)], [.int 1])) rfl ?_
    cases h
    exact rret rfl ⟨rfl, rfl, _, _, rfl, rfl, rfl, rfl⟩
def f_Reader_isName (N : Nat) (S : St) (m : Mm) : Option (Int32) := (if ((mI m 2 3)) = 1 then (if ((mJ m 2 6)) = 0 then some 0 else (if ((mJ m 2 6)) = 1751476594 then some 0 else (if ((mJ m 2 6)) = 1818326117 then some 0 else (if ((mJ m 2 6)) = 6578553 then some 0 else (if ((mJ m 2 6)) = 499967946343 then some 0 else (if ((mJ m 2 6)) = 427071202675 then some 0 else (if ((mJ m 2 6)) = 1852796517 then some 0 else (if ((mJ m 2 6)) = 1752132708 then some 0 else (if ((mJ m 2 6)) = 1650549611 then some 0 else some 1))))))))) else some 0)
set_option maxRecDepth 20000 in
set_option maxHeartbeats 4000000 in
theorem e_Reader_isName {xs : Nat → Int32} {L : Nat} {al : Bool} (N : Nat) {d : Nat} (hd : 1 ≤ d) {S : St} (hSh : ShC S) {m : Mm} {r0 : Int32} (h : f_Reader_isName N S m = some r0) : Ev xs L al d 28 [.ref 2] (m, S) (some (.int r0)) (m, S) := by
  obtain ⟨d, rfl⟩ : ∃ e, d = e + 1 := ⟨d - 1, by omega⟩
  refine ev_of (by decide) (Nat.le_of_ble_eq_true rfl) ?_
  rw [f_Reader_isName] at h
  show RN xs L al (Ev xs L al d) 28 0 [(0, .ref 2)] [] (m, S) (some (.int r0)) (m, S)
  refine rsn 1 (t := (1, [(0, .ref 2)], [.ref 2])) rfl ?_
  refine pgI rfl rfl rfl (hSh.1.k 2 rfl _) ?_
  show RN xs L al (Ev xs L al d) 28 4 [(0, .ref 2)] [.int ((mI m 2 3))] (m, S) (some (.int r0)) (m, S)
  refine rsn 1 (t := (5, [(0, .ref 2)], [.int 1, .int ((mI m 2 3))])) rfl ?_
  by_cases c1 : ((mI m 2 3)) = 1
  · rw [if_pos c1] at h
    refine rjf (a := (109, [(0, .ref 2)], [])) (b := (8, [(0, .ref 2)], [])) rfl rfl (fun q => q c1) ?_
    refine rsn 1 (t := (9, [(0, .ref 2)], [.ref 2])) rfl ?_
    refine pgJ rfl rfl rfl (hSh.1.k 2 rfl _) ?_
    show RN xs L al (Ev xs L al d) 28 12 [(0, .ref 2)] [.long ((mJ m 2 6))] (m, S) (some (.int r0)) (m, S)
    refine rsn 2 (t := (14, [(0, .ref 2)], [.int ((lg_cmp ((mJ m 2 6)) 0))])) rfl ?_
    by_cases c2 : ((mJ m 2 6)) = 0
    · rw [if_pos c2] at h
      refine rjt (a := (109, [(0, .ref 2)], [])) (b := (17, [(0, .ref 2)], [])) rfl rfl (lgc_eq.mpr c2) ?_
      refine rsn 1 (t := (110, [(0, .ref 2)], [.int 0])) rfl ?_
      cases h
      exact rret rfl ⟨rfl, rfl, _, _, rfl, rfl, rfl, rfl⟩
    · rw [if_neg c2] at h
      refine rjf (a := (109, [(0, .ref 2)], [])) (b := (17, [(0, .ref 2)], [])) rfl rfl (fun q => c2 (lgc_eq.mp q)) ?_
      refine rsn 1 (t := (18, [(0, .ref 2)], [.ref 2])) rfl ?_
      refine pgJ rfl rfl rfl (hSh.1.k 2 rfl _) ?_
      show RN xs L al (Ev xs L al d) 28 21 [(0, .ref 2)] [.long ((mJ m 2 6))] (m, S) (some (.int r0)) (m, S)
      refine rsn 2 (t := (25, [(0, .ref 2)], [.int ((lg_cmp ((mJ m 2 6)) 1751476594))])) rfl ?_
      by_cases c3 : ((mJ m 2 6)) = 1751476594
      · rw [if_pos c3] at h
        refine rjt (a := (109, [(0, .ref 2)], [])) (b := (28, [(0, .ref 2)], [])) rfl rfl (lgc_eq.mpr c3) ?_
        refine rsn 1 (t := (110, [(0, .ref 2)], [.int 0])) rfl ?_
        cases h
        exact rret rfl ⟨rfl, rfl, _, _, rfl, rfl, rfl, rfl⟩
      · rw [if_neg c3] at h
        refine rjf (a := (109, [(0, .ref 2)], [])) (b := (28, [(0, .ref 2)], [])) rfl rfl (fun q => c3 (lgc_eq.mp q)) ?_
        refine rsn 1 (t := (29, [(0, .ref 2)], [.ref 2])) rfl ?_
        refine pgJ rfl rfl rfl (hSh.1.k 2 rfl _) ?_
        show RN xs L al (Ev xs L al d) 28 32 [(0, .ref 2)] [.long ((mJ m 2 6))] (m, S) (some (.int r0)) (m, S)
        refine rsn 2 (t := (36, [(0, .ref 2)], [.int ((lg_cmp ((mJ m 2 6)) 1818326117))])) rfl ?_
        by_cases c4 : ((mJ m 2 6)) = 1818326117
        · rw [if_pos c4] at h
          refine rjt (a := (109, [(0, .ref 2)], [])) (b := (39, [(0, .ref 2)], [])) rfl rfl (lgc_eq.mpr c4) ?_
          refine rsn 1 (t := (110, [(0, .ref 2)], [.int 0])) rfl ?_
          cases h
          exact rret rfl ⟨rfl, rfl, _, _, rfl, rfl, rfl, rfl⟩
        · rw [if_neg c4] at h
          refine rjf (a := (109, [(0, .ref 2)], [])) (b := (39, [(0, .ref 2)], [])) rfl rfl (fun q => c4 (lgc_eq.mp q)) ?_
          refine rsn 1 (t := (40, [(0, .ref 2)], [.ref 2])) rfl ?_
          refine pgJ rfl rfl rfl (hSh.1.k 2 rfl _) ?_
          show RN xs L al (Ev xs L al d) 28 43 [(0, .ref 2)] [.long ((mJ m 2 6))] (m, S) (some (.int r0)) (m, S)
          refine rsn 2 (t := (47, [(0, .ref 2)], [.int ((lg_cmp ((mJ m 2 6)) 6578553))])) rfl ?_
          by_cases c5 : ((mJ m 2 6)) = 6578553
          · rw [if_pos c5] at h
            refine rjt (a := (109, [(0, .ref 2)], [])) (b := (50, [(0, .ref 2)], [])) rfl rfl (lgc_eq.mpr c5) ?_
            refine rsn 1 (t := (110, [(0, .ref 2)], [.int 0])) rfl ?_
            cases h
            exact rret rfl ⟨rfl, rfl, _, _, rfl, rfl, rfl, rfl⟩
          · rw [if_neg c5] at h
            refine rjf (a := (109, [(0, .ref 2)], [])) (b := (50, [(0, .ref 2)], [])) rfl rfl (fun q => c5 (lgc_eq.mp q)) ?_
            refine rsn 1 (t := (51, [(0, .ref 2)], [.ref 2])) rfl ?_
            refine pgJ rfl rfl rfl (hSh.1.k 2 rfl _) ?_
            show RN xs L al (Ev xs L al d) 28 54 [(0, .ref 2)] [.long ((mJ m 2 6))] (m, S) (some (.int r0)) (m, S)
            refine rsn 2 (t := (58, [(0, .ref 2)], [.int ((lg_cmp ((mJ m 2 6)) 499967946343))])) rfl ?_
            by_cases c6 : ((mJ m 2 6)) = 499967946343
            · rw [if_pos c6] at h
              refine rjt (a := (109, [(0, .ref 2)], [])) (b := (61, [(0, .ref 2)], [])) rfl rfl (lgc_eq.mpr c6) ?_
              refine rsn 1 (t := (110, [(0, .ref 2)], [.int 0])) rfl ?_
              cases h
              exact rret rfl ⟨rfl, rfl, _, _, rfl, rfl, rfl, rfl⟩
            · rw [if_neg c6] at h
              refine rjf (a := (109, [(0, .ref 2)], [])) (b := (61, [(0, .ref 2)], [])) rfl rfl (fun q => c6 (lgc_eq.mp q)) ?_
              refine rsn 1 (t := (62, [(0, .ref 2)], [.ref 2])) rfl ?_
              refine pgJ rfl rfl rfl (hSh.1.k 2 rfl _) ?_
              show RN xs L al (Ev xs L al d) 28 65 [(0, .ref 2)] [.long ((mJ m 2 6))] (m, S) (some (.int r0)) (m, S)
              refine rsn 2 (t := (69, [(0, .ref 2)], [.int ((lg_cmp ((mJ m 2 6)) 427071202675))])) rfl ?_
              by_cases c7 : ((mJ m 2 6)) = 427071202675
              · rw [if_pos c7] at h
                refine rjt (a := (109, [(0, .ref 2)], [])) (b := (72, [(0, .ref 2)], [])) rfl rfl (lgc_eq.mpr c7) ?_
                refine rsn 1 (t := (110, [(0, .ref 2)], [.int 0])) rfl ?_
                cases h
                exact rret rfl ⟨rfl, rfl, _, _, rfl, rfl, rfl, rfl⟩
              · rw [if_neg c7] at h
                refine rjf (a := (109, [(0, .ref 2)], [])) (b := (72, [(0, .ref 2)], [])) rfl rfl (fun q => c7 (lgc_eq.mp q)) ?_
                refine rsn 1 (t := (73, [(0, .ref 2)], [.ref 2])) rfl ?_
                refine pgJ rfl rfl rfl (hSh.1.k 2 rfl _) ?_
                show RN xs L al (Ev xs L al d) 28 76 [(0, .ref 2)] [.long ((mJ m 2 6))] (m, S) (some (.int r0)) (m, S)
                refine rsn 2 (t := (80, [(0, .ref 2)], [.int ((lg_cmp ((mJ m 2 6)) 1852796517))])) rfl ?_
                by_cases c8 : ((mJ m 2 6)) = 1852796517
                · rw [if_pos c8] at h
                  refine rjt (a := (109, [(0, .ref 2)], [])) (b := (83, [(0, .ref 2)], [])) rfl rfl (lgc_eq.mpr c8) ?_
                  refine rsn 1 (t := (110, [(0, .ref 2)], [.int 0])) rfl ?_
                  cases h
                  exact rret rfl ⟨rfl, rfl, _, _, rfl, rfl, rfl, rfl⟩
                · rw [if_neg c8] at h
                  refine rjf (a := (109, [(0, .ref 2)], [])) (b := (83, [(0, .ref 2)], [])) rfl rfl (fun q => c8 (lgc_eq.mp q)) ?_
                  refine rsn 1 (t := (84, [(0, .ref 2)], [.ref 2])) rfl ?_
                  refine pgJ rfl rfl rfl (hSh.1.k 2 rfl _) ?_
                  show RN xs L al (Ev xs L al d) 28 87 [(0, .ref 2)] [.long ((mJ m 2 6))] (m, S) (some (.int r0)) (m, S)
                  refine rsn 2 (t := (91, [(0, .ref 2)], [.int ((lg_cmp ((mJ m 2 6)) 1752132708))])) rfl ?_
                  by_cases c9 : ((mJ m 2 6)) = 1752132708
                  · rw [if_pos c9] at h
                    refine rjt (a := (109, [(0, .ref 2)], [])) (b := (94, [(0, .ref 2)], [])) rfl rfl (lgc_eq.mpr c9) ?_
                    refine rsn 1 (t := (110, [(0, .ref 2)], [.int 0])) rfl ?_
                    cases h
                    exact rret rfl ⟨rfl, rfl, _, _, rfl, rfl, rfl, rfl⟩
                  · rw [if_neg c9] at h
                    refine rjf (a := (109, [(0, .ref 2)], [])) (b := (94, [(0, .ref 2)], [])) rfl rfl (fun q => c9 (lgc_eq.mp q)) ?_
                    refine rsn 1 (t := (95, [(0, .ref 2)], [.ref 2])) rfl ?_
                    refine pgJ rfl rfl rfl (hSh.1.k 2 rfl _) ?_
                    show RN xs L al (Ev xs L al d) 28 98 [(0, .ref 2)] [.long ((mJ m 2 6))] (m, S) (some (.int r0)) (m, S)
                    refine rsn 2 (t := (102, [(0, .ref 2)], [.int ((lg_cmp ((mJ m 2 6)) 1650549611))])) rfl ?_
                    by_cases c10 : ((mJ m 2 6)) = 1650549611
                    · rw [if_pos c10] at h
                      refine rjt (a := (109, [(0, .ref 2)], [])) (b := (105, [(0, .ref 2)], [])) rfl rfl (lgc_eq.mpr c10) ?_
                      refine rsn 1 (t := (110, [(0, .ref 2)], [.int 0])) rfl ?_
                      cases h
                      exact rret rfl ⟨rfl, rfl, _, _, rfl, rfl, rfl, rfl⟩
                    · rw [if_neg c10] at h
                      refine rjf (a := (109, [(0, .ref 2)], [])) (b := (105, [(0, .ref 2)], [])) rfl rfl (fun q => c10 (lgc_eq.mp q)) ?_
                      refine rsn 2 (t := (110, [(0, .ref 2)], [.int 1])) rfl ?_
                      cases h
                      exact rret rfl ⟨rfl, rfl, _, _, rfl, rfl, rfl, rfl⟩
  · rw [if_neg c1] at h
    refine rjt (a := (109, [(0, .ref 2)], [])) (b := (8, [(0, .ref 2)], [])) rfl rfl c1 ?_
    refine rsn 1 (t := (110, [(0, .ref 2)], [.int 0])) rfl ?_
    cases h
    exact rret rfl ⟨rfl, rfl, _, _, rfl, rfl, rfl, rfl⟩
def f_Will_heirNamed_L2 (N : Nat) (S : St) (x0 : Nat) (x1 : Int64) (m : Mm) (k2 : Int32 → Option (Int32)) : Nat → Int32 → Option (Int32)
  | 0, _ => none
  | n2 + 1, x3 => f_Will_heirNamed_L2 N S x0 x1 m k2 n2 x3
def f_Will_heirNamed (N : Nat) (S : St) (x0 : Nat) (x1 : Int64) (m : Mm) : Option (Int32) := f_Will_heirNamed_L2 N S x0 x1 m (fun (z1_3 : Int32) => some ((-1))) N 0
set_option maxRecDepth 20000 in
set_option maxHeartbeats 4000000 in
theorem e_Will_heirNamed {xs : Nat → Int32} {L : Nat} {al : Bool} (N : Nat) {d : Nat} (hd : 1 ≤ d) {S : St} (hSh : ShC S) {x0 : Nat} {x1 : Int64} (hx0 : x0 ∈ wKl) {m : Mm} {r0 : Int32} (h : f_Will_heirNamed N S x0 x1 m = some r0) : Ev xs L al d 29 [.ref x0, .long x1] (m, S) (some (.int r0)) (m, S) := by
  obtain ⟨d, rfl⟩ : ∃ e, d = e + 1 := ⟨d - 1, by omega⟩
  refine ev_of (by decide) (Nat.le_of_ble_eq_true rfl) ?_
  rw [f_Will_heirNamed] at h
  show RN xs L al (Ev xs L al d) 29 0 [(0, .ref x0), (1, .long x1)] [] (m, S) (some (.int r0)) (m, S)
  refine rsn 2 (t := (2, [(3, .int 0), (0, .ref x0), (1, .long x1)], [])) rfl ?_
  have ex2 : ∀ (z1_3 : Int32), (some ((-1))) = some r0 → RN xs L al (Ev xs L al d) 29 29 [] [] (m, S) (some (.int r0)) (m, S) := by
    intro z1_3 h
    try dsimp only at h
    refine rsn 1 (t := (30, [], [.int ((-1))])) rfl ?_
    cases h
    exact rret rfl ⟨rfl, rfl, _, _, rfl, rfl, rfl, rfl⟩
  have lp2 : ∀ (n : Nat) (y2_3 : Int32), (f_Will_heirNamed_L2 N S x0 x1 m (fun (z1_3 : Int32) => some ((-1))) n y2_3) = some r0 → RN xs L al (Ev xs L al d) 29 2 [(0, .ref x0), (1, .long x1), (3, .int y2_3)] [] (m, S) (some (.int r0)) (m, S) := by
    intro n
    induction n with
    | zero => intro y2_3 h; exact absurd h (by simp [f_Will_heirNamed_L2])
    | succ n2 ih2 =>
      intro y2_3 h
      try dsimp only at h
      rw [f_Will_heirNamed_L2] at h
      try dsimp only at h
      exact rsub [(0, .ref x0), (1, .long x1), (3, .int y2_3)] ⟨rfl, ⟨rfl, ⟨rfl, trivial⟩⟩⟩ ⟨rfl, ⟨rfl, ⟨rfl, trivial⟩⟩⟩ (ih2 y2_3 h)
  exact rsub [(0, .ref x0), (1, .long x1), (3, .int 0)] ⟨rfl, ⟨rfl, ⟨rfl, trivial⟩⟩⟩ ⟨rfl, ⟨rfl, ⟨rfl, trivial⟩⟩⟩ (lp2 N 0 h)
def f_Reader_isNumber (N : Nat) (S : St) (x1 : Int32) (x2 : Int32) (m : Mm) : Option (Int32) := (if ((mI m 2 3)) = 2 then (if ((mI m 2 5)) < x1 then some 0 else (if x2 < ((mI m 2 5)) then some 0 else some 1)) else some 0)
set_option maxRecDepth 20000 in
set_option maxHeartbeats 4000000 in
theorem e_Reader_isNumber {xs : Nat → Int32} {L : Nat} {al : Bool} (N : Nat) {d : Nat} (hd : 1 ≤ d) {S : St} (hSh : ShC S) {x1 : Int32} {x2 : Int32} {m : Mm} {r0 : Int32} (h : f_Reader_isNumber N S x1 x2 m = some r0) : Ev xs L al d 30 [.ref 2, .int x1, .int x2] (m, S) (some (.int r0)) (m, S) := by
  obtain ⟨d, rfl⟩ : ∃ e, d = e + 1 := ⟨d - 1, by omega⟩
  refine ev_of (by decide) (Nat.le_of_ble_eq_true rfl) ?_
  rw [f_Reader_isNumber] at h
  show RN xs L al (Ev xs L al d) 30 0 [(0, .ref 2), (1, .int x1), (2, .int x2)] [] (m, S) (some (.int r0)) (m, S)
  refine rsn 1 (t := (1, [(0, .ref 2), (1, .int x1), (2, .int x2)], [.ref 2])) rfl ?_
  refine pgI rfl rfl rfl (hSh.1.k 2 rfl _) ?_
  show RN xs L al (Ev xs L al d) 30 4 [(0, .ref 2), (1, .int x1), (2, .int x2)] [.int ((mI m 2 3))] (m, S) (some (.int r0)) (m, S)
  refine rsn 1 (t := (5, [(0, .ref 2), (1, .int x1), (2, .int x2)], [.int 2, .int ((mI m 2 3))])) rfl ?_
  by_cases c1 : ((mI m 2 3)) = 2
  · rw [if_pos c1] at h
    refine rjf (a := (28, [(0, .ref 2), (1, .int x1), (2, .int x2)], [])) (b := (8, [(0, .ref 2), (1, .int x1), (2, .int x2)], [])) rfl rfl (fun q => q c1) ?_
    refine rsn 1 (t := (9, [(0, .ref 2), (1, .int x1), (2, .int x2)], [.ref 2])) rfl ?_
    refine pgI rfl rfl rfl (hSh.1.k 2 rfl _) ?_
    show RN xs L al (Ev xs L al d) 30 12 [(0, .ref 2), (1, .int x1), (2, .int x2)] [.int ((mI m 2 5))] (m, S) (some (.int r0)) (m, S)
    refine rsn 1 (t := (13, [(0, .ref 2), (1, .int x1), (2, .int x2)], [.int x1, .int ((mI m 2 5))])) rfl ?_
    by_cases c2 : ((mI m 2 5)) < x1
    · rw [if_pos c2] at h
      refine rjt (a := (28, [(0, .ref 2), (1, .int x1), (2, .int x2)], [])) (b := (16, [(0, .ref 2), (1, .int x1), (2, .int x2)], [])) rfl rfl c2 ?_
      refine rsn 1 (t := (29, [(0, .ref 2), (1, .int x1), (2, .int x2)], [.int 0])) rfl ?_
      cases h
      exact rret rfl ⟨rfl, rfl, _, _, rfl, rfl, rfl, rfl⟩
    · rw [if_neg c2] at h
      refine rjf (a := (28, [(0, .ref 2), (1, .int x1), (2, .int x2)], [])) (b := (16, [(0, .ref 2), (1, .int x1), (2, .int x2)], [])) rfl rfl c2 ?_
      refine rsn 1 (t := (17, [(0, .ref 2), (1, .int x1), (2, .int x2)], [.ref 2])) rfl ?_
      refine pgI rfl rfl rfl (hSh.1.k 2 rfl _) ?_
      show RN xs L al (Ev xs L al d) 30 20 [(0, .ref 2), (1, .int x1), (2, .int x2)] [.int ((mI m 2 5))] (m, S) (some (.int r0)) (m, S)
      refine rsn 1 (t := (21, [(0, .ref 2), (1, .int x1), (2, .int x2)], [.int x2, .int ((mI m 2 5))])) rfl ?_
      by_cases c3 : x2 < ((mI m 2 5))
      · rw [if_pos c3] at h
        refine rjt (a := (28, [(0, .ref 2), (1, .int x1), (2, .int x2)], [])) (b := (24, [(0, .ref 2), (1, .int x1), (2, .int x2)], [])) rfl rfl c3 ?_
        refine rsn 1 (t := (29, [(0, .ref 2), (1, .int x1), (2, .int x2)], [.int 0])) rfl ?_
        cases h
        exact rret rfl ⟨rfl, rfl, _, _, rfl, rfl, rfl, rfl⟩
      · rw [if_neg c3] at h
        refine rjf (a := (28, [(0, .ref 2), (1, .int x1), (2, .int x2)], [])) (b := (24, [(0, .ref 2), (1, .int x1), (2, .int x2)], [])) rfl rfl c3 ?_
        refine rsn 2 (t := (29, [(0, .ref 2), (1, .int x1), (2, .int x2)], [.int 1])) rfl ?_
        cases h
        exact rret rfl ⟨rfl, rfl, _, _, rfl, rfl, rfl, rfl⟩
  · rw [if_neg c1] at h
    refine rjt (a := (28, [(0, .ref 2), (1, .int x1), (2, .int x2)], [])) (b := (8, [(0, .ref 2), (1, .int x1), (2, .int x2)], [])) rfl rfl c1 ?_
    refine rsn 1 (t := (29, [(0, .ref 2), (1, .int x1), (2, .int x2)], [.int 0])) rfl ?_
    cases h
    exact rret rfl ⟨rfl, rfl, _, _, rfl, rfl, rfl, rfl⟩
def f_Will_putWorth (N : Nat) (S : St) (x0 : Nat) (x1 : Int32) (x2 : Int32) (m : Mm) : Option (Mm) := b1 (f_Will_hasRoomForHeir N S x0 m) fun r1 => (if r1 = 0 then some m else (if x1 < 0 then some m else (if 3 ≤ x1 then some m else ck (ix ((((((mI m x0 0)) * 3)) + x1)) 9) (some (vX m ((x0 + 2)) (((((((mI m x0 0)) * 3)) + x1)).toNatClampNeg) x2)))))
set_option maxRecDepth 20000 in
set_option maxHeartbeats 4000000 in
theorem e_Will_putWorth {xs : Nat → Int32} {L : Nat} {al : Bool} (N : Nat) {d : Nat} (hd : 2 ≤ d) {S : St} (hSh : ShC S) {x0 : Nat} {x1 : Int32} {x2 : Int32} (hx0 : x0 ∈ wKl) {m : Mm} {mf : Mm} (h : f_Will_putWorth N S x0 x1 x2 m = some mf) : Ev xs L al d 31 [.ref x0, .int x1, .int x2] (m, S) none (mf, S) := by
  obtain ⟨d, rfl⟩ : ∃ e, d = e + 1 := ⟨d - 1, by omega⟩
  refine ev_of (by decide) (Nat.le_of_ble_eq_true rfl) ?_
  rw [f_Will_putWorth] at h
  show RN xs L al (Ev xs L al d) 31 0 [(0, .ref x0), (1, .int x1), (2, .int x2)] [] (m, S) none (mf, S)
  refine rsn 1 (t := (1, [(0, .ref x0), (1, .int x1), (2, .int x2)], [.ref x0])) rfl ?_
  obtain ⟨r1, g1, h⟩ := b1_some h
  refine rcV 27 x0 [] rfl rfl rfl (hSh.kW hx0 _) (Nat.le_of_ble_eq_true rfl) rfl (e_Will_hasRoomForHeir N (by omega) hSh hx0 g1) ?_
  show RN xs L al (Ev xs L al d) 31 4 [(0, .ref x0), (1, .int x1), (2, .int x2)] [.int r1] (m, S) none (mf, S)
  by_cases c2 : r1 = 0
  · rw [if_pos c2] at h
    refine rjt (a := (30, [(0, .ref x0), (1, .int x1), (2, .int x2)], [])) (b := (7, [(0, .ref x0), (1, .int x1), (2, .int x2)], [])) rfl rfl c2 ?_
    cases h
    exact rret rfl ⟨rfl, rfl, rfl, rfl, rfl⟩
  · rw [if_neg c2] at h
    refine rjf (a := (30, [(0, .ref x0), (1, .int x1), (2, .int x2)], [])) (b := (7, [(0, .ref x0), (1, .int x1), (2, .int x2)], [])) rfl rfl c2 ?_
    refine rsn 1 (t := (8, [(0, .ref x0), (1, .int x1), (2, .int x2)], [.int x1])) rfl ?_
    by_cases c3 : x1 < 0
    · rw [if_pos c3] at h
      refine rjt (a := (30, [(0, .ref x0), (1, .int x1), (2, .int x2)], [])) (b := (11, [(0, .ref x0), (1, .int x1), (2, .int x2)], [])) rfl rfl c3 ?_
      cases h
      exact rret rfl ⟨rfl, rfl, rfl, rfl, rfl⟩
    · rw [if_neg c3] at h
      refine rjf (a := (30, [(0, .ref x0), (1, .int x1), (2, .int x2)], [])) (b := (11, [(0, .ref x0), (1, .int x1), (2, .int x2)], [])) rfl rfl c3 ?_
      refine rsn 2 (t := (13, [(0, .ref x0), (1, .int x1), (2, .int x2)], [.int 3, .int x1])) rfl ?_
      by_cases c4 : 3 ≤ x1
      · rw [if_pos c4] at h
        refine rjt (a := (30, [(0, .ref x0), (1, .int x1), (2, .int x2)], [])) (b := (16, [(0, .ref x0), (1, .int x1), (2, .int x2)], [])) rfl rfl c4 ?_
        cases h
        exact rret rfl ⟨rfl, rfl, rfl, rfl, rfl⟩
      · rw [if_neg c4] at h
        refine rjf (a := (30, [(0, .ref x0), (1, .int x1), (2, .int x2)], [])) (b := (16, [(0, .ref x0), (1, .int x1), (2, .int x2)], [])) rfl rfl c4 ?_
        refine rsn 1 (t := (17, [(0, .ref x0), (1, .int x1), (2, .int x2)], [.ref x0])) rfl ?_
        refine rgR rfl rfl rfl (hSh.kW hx0 _) (hSh.rWa2 hx0 _) ?_
        refine rsn 1 (t := (21, [(0, .ref x0), (1, .int x1), (2, .int x2)], [.ref x0, .ref ((x0 + 2))])) rfl ?_
        refine pgI rfl rfl rfl (hSh.kW hx0 _) ?_
        show RN xs L al (Ev xs L al d) 31 24 [(0, .ref x0), (1, .int x1), (2, .int x2)] [.int ((mI m x0 0)), .ref ((x0 + 2))] (m, S) none (mf, S)
        refine rsn 5 (t := (29, [(0, .ref x0), (1, .int x1), (2, .int x2)], [.int x2, .int ((((((mI m x0 0)) * 3)) + x1)), .ref ((x0 + 2))])) rfl ?_
        obtain ⟨c5, h⟩ := ck_some h
        refine psI rfl (hSh.kWa2 hx0 _) (hSh.lWa2 hx0 _) c5 ?_
        cases h
        exact rret rfl ⟨rfl, rfl, rfl, rfl, rfl⟩
def f_Will_addHeir (N : Nat) (S : St) (x0 : Nat) (x1 : Int64) (x3 : Int32) (m : Mm) : Option (Mm) := b1 (f_Will_hasRoomForHeir N S x0 m) fun r1 => (if r1 = 0 then some m else ck (ix ((mI m x0 0)) 3) ((if x3 = 0 then some (vI (vY m ((x0 + 1)) (((mI m x0 0)).toNatClampNeg) x1) x0 0 ((((mI m x0 0)) + 1))) else some (vI (vI (vY m ((x0 + 1)) (((mI m x0 0)).toNatClampNeg) x1) x0 6 ((((mI m x0 6)) ||| ((isl 1 ((mI m x0 0))))))) x0 0 ((((mI (vI (vY m ((x0 + 1)) (((mI m x0 0)).toNatClampNeg) x1) x0 6 ((((mI m x0 6)) ||| ((isl 1 ((mI m x0 0))))))) x0 0)) + 1))))))
set_option maxRecDepth 20000 in
set_option maxHeartbeats 4000000 in
theorem e_Will_addHeir {xs : Nat → Int32} {L : Nat} {al : Bool} (N : Nat) {d : Nat} (hd : 2 ≤ d) {S : St} (hSh : ShC S) {x0 : Nat} {x1 : Int64} {x3 : Int32} (hx0 : x0 ∈ wKl) {m : Mm} {mf : Mm} (h : f_Will_addHeir N S x0 x1 x3 m = some mf) : Ev xs L al d 32 [.ref x0, .long x1, .int x3] (m, S) none (mf, S) := by
  obtain ⟨d, rfl⟩ : ∃ e, d = e + 1 := ⟨d - 1, by omega⟩
  refine ev_of (by decide) (Nat.le_of_ble_eq_true rfl) ?_
  rw [f_Will_addHeir] at h
  show RN xs L al (Ev xs L al d) 32 0 [(0, .ref x0), (1, .long x1), (3, .int x3)] [] (m, S) none (mf, S)
  refine rsn 1 (t := (1, [(0, .ref x0), (1, .long x1), (3, .int x3)], [.ref x0])) rfl ?_
  obtain ⟨r1, g1, h⟩ := b1_some h
  refine rcV 27 x0 [] rfl rfl rfl (hSh.kW hx0 _) (Nat.le_of_ble_eq_true rfl) rfl (e_Will_hasRoomForHeir N (by omega) hSh hx0 g1) ?_
  show RN xs L al (Ev xs L al d) 32 4 [(0, .ref x0), (1, .long x1), (3, .int x3)] [.int r1] (m, S) none (mf, S)
  by_cases c2 : r1 = 0
  · rw [if_pos c2] at h
    refine rjt (a := (46, [(0, .ref x0), (1, .long x1), (3, .int x3)], [])) (b := (7, [(0, .ref x0), (1, .long x1), (3, .int x3)], [])) rfl rfl c2 ?_
    cases h
    exact rret rfl ⟨rfl, rfl, rfl, rfl, rfl⟩
  · rw [if_neg c2] at h
    refine rjf (a := (46, [(0, .ref x0), (1, .long x1), (3, .int x3)], [])) (b := (7, [(0, .ref x0), (1, .long x1), (3, .int x3)], [])) rfl rfl c2 ?_
    refine rsn 1 (t := (8, [(0, .ref x0), (1, .long x1), (3, .int x3)], [.ref x0])) rfl ?_
    refine rgR rfl rfl rfl (hSh.kW hx0 _) (hSh.rWa1 hx0 _) ?_
    refine rsn 1 (t := (12, [(0, .ref x0), (1, .long x1), (3, .int x3)], [.ref x0, .ref ((x0 + 1))])) rfl ?_
    refine pgI rfl rfl rfl (hSh.kW hx0 _) ?_
    show RN xs L al (Ev xs L al d) 32 15 [(0, .ref x0), (1, .long x1), (3, .int x3)] [.int ((mI m x0 0)), .ref ((x0 + 1))] (m, S) none (mf, S)
    refine rsn 1 (t := (16, [(0, .ref x0), (1, .long x1), (3, .int x3)], [.long x1, .int ((mI m x0 0)), .ref ((x0 + 1))])) rfl ?_
    obtain ⟨c3, h⟩ := ck_some h
    refine psJ rfl (hSh.kWa1 hx0 _) (hSh.lWa1 hx0 _) c3 ?_
    refine rsn 1 (t := (18, [(0, .ref x0), (1, .long x1), (3, .int x3)], [.int x3])) rfl ?_
    by_cases c4 : x3 = 0
    · rw [if_pos c4] at h
      refine rjt (a := (36, [(0, .ref x0), (1, .long x1), (3, .int x3)], [])) (b := (21, [(0, .ref x0), (1, .long x1), (3, .int x3)], [])) rfl rfl c4 ?_
      refine rsn 2 (t := (38, [(0, .ref x0), (1, .long x1), (3, .int x3)], [.ref x0, .ref x0])) rfl ?_
      refine pgI rfl rfl rfl (hSh.kW hx0 _) ?_
      show RN xs L al (Ev xs L al d) 32 41 [(0, .ref x0), (1, .long x1), (3, .int x3)] [.int ((mI m x0 0)), .ref x0] ((vY m ((x0 + 1)) (((mI m x0 0)).toNatClampNeg) x1), S) none (mf, S)
      refine rsn 2 (t := (43, [(0, .ref x0), (1, .long x1), (3, .int x3)], [.int ((((mI m x0 0)) + 1)), .ref x0])) rfl ?_
      refine ppI rfl rfl rfl rfl (hSh.kW hx0 _) ?_
      cases h
      exact rret rfl ⟨rfl, rfl, rfl, rfl, rfl⟩
    · rw [if_neg c4] at h
      refine rjf (a := (36, [(0, .ref x0), (1, .long x1), (3, .int x3)], [])) (b := (21, [(0, .ref x0), (1, .long x1), (3, .int x3)], [])) rfl rfl c4 ?_
      refine rsn 2 (t := (23, [(0, .ref x0), (1, .long x1), (3, .int x3)], [.ref x0, .ref x0])) rfl ?_
      refine pgI rfl rfl rfl (hSh.kW hx0 _) ?_
      show RN xs L al (Ev xs L al d) 32 26 [(0, .ref x0), (1, .long x1), (3, .int x3)] [.int ((mI m x0 6)), .ref x0] ((vY m ((x0 + 1)) (((mI m x0 0)).toNatClampNeg) x1), S) none (mf, S)
      refine rsn 2 (t := (28, [(0, .ref x0), (1, .long x1), (3, .int x3)], [.ref x0, .int 1, .int ((mI m x0 6)), .ref x0])) rfl ?_
      refine pgI rfl rfl rfl (hSh.kW hx0 _) ?_
      show RN xs L al (Ev xs L al d) 32 31 [(0, .ref x0), (1, .long x1), (3, .int x3)] [.int ((mI m x0 0)), .int 1, .int ((mI m x0 6)), .ref x0] ((vY m ((x0 + 1)) (((mI m x0 0)).toNatClampNeg) x1), S) none (mf, S)
      refine rsn 2 (t := (33, [(0, .ref x0), (1, .long x1), (3, .int x3)], [.int ((((mI m x0 6)) ||| ((isl 1 ((mI m x0 0)))))), .ref x0])) rfl ?_
      refine ppI rfl rfl rfl rfl (hSh.kW hx0 _) ?_
      refine rsn 2 (t := (38, [(0, .ref x0), (1, .long x1), (3, .int x3)], [.ref x0, .ref x0])) rfl ?_
      refine pgI rfl rfl rfl (hSh.kW hx0 _) ?_
      show RN xs L al (Ev xs L al d) 32 41 [(0, .ref x0), (1, .long x1), (3, .int x3)] [.int ((mI (vI (vY m ((x0 + 1)) (((mI m x0 0)).toNatClampNeg) x1) x0 6 ((((mI m x0 6)) ||| ((isl 1 ((mI m x0 0))))))) x0 0)), .ref x0] ((vI (vY m ((x0 + 1)) (((mI m x0 0)).toNatClampNeg) x1) x0 6 ((((mI m x0 6)) ||| ((isl 1 ((mI m x0 0))))))), S) none (mf, S)
      refine rsn 2 (t := (43, [(0, .ref x0), (1, .long x1), (3, .int x3)], [.int ((((mI (vI (vY m ((x0 + 1)) (((mI m x0 0)).toNatClampNeg) x1) x0 6 ((((mI m x0 6)) ||| ((isl 1 ((mI m x0 0))))))) x0 0)) + 1)), .ref x0])) rfl ?_
      refine ppI rfl rfl rfl rfl (hSh.kW hx0 _) ?_
      cases h
      exact rret rfl ⟨rfl, rfl, rfl, rfl, rfl⟩
def f_Reader_readHeir_L46 (N : Nat) (S : St) (x1 : Nat) (x2 : Int32) (x3 : Int64) (k46 : Int32 → Mm → Option (Int32 × Mm)) : Nat → Int32 → Mm → Option (Int32 × Mm)
  | 0, _, _ => none
  | n46 + 1, x5, m => f_Reader_readHeir_L46 N S x1 x2 x3 k46 n46 x5 m
def f_Reader_readHeir (N : Nat) (S : St) (x1 : Nat) (x2 : Int32) (m : Mm) : Option (Int32 × Mm) := b1 (f_Will_hasRoomForHeir N S x1 m) fun r1 => (if r1 = 0 then some (0, m) else b3 (f_Reader_step N S m) fun m3 => b1 (f_Reader_isName N S m3) fun r4 => (if r4 = 0 then some (0, m3) else b1 (f_Will_heirNamed N S x1 ((mJ m3 2 6)) m3) fun r6 => (if r6 = ((-1)) then b3 (f_Reader_step N S m3) fun m8 => f_Reader_readHeir_L46 N S x1 x2 ((mJ m3 2 6)) (fun (z9_5 : Int32) (m9 : Mm) => (if ((mI m9 2 3)) = 4 then b3 (f_Will_addHeir N S x1 ((mJ m3 2 6)) x2 m9) fun m11 => b3 (f_Reader_step N S m11) fun m12 => some (1, m12) else some (0, m9))) N 0 m8 else some (0, m3))))
set_option maxRecDepth 20000 in
set_option maxHeartbeats 4000000 in
theorem e_Reader_readHeir {xs : Nat → Int32} {L : Nat} {al : Bool} (N : Nat) {d : Nat} (hd : 4 ≤ d) {S : St} (hSh : ShC S) {x1 : Nat} {x2 : Int32} (hx1 : x1 ∈ wKl) {m : Mm} {r0 : Int32} {mf : Mm} (h : f_Reader_readHeir N S x1 x2 m = some (r0, mf)) : Ev xs L al d 26 [.ref 2, .ref x1, .int x2] (m, S) (some (.int r0)) (mf, S) := by
  obtain ⟨d, rfl⟩ : ∃ e, d = e + 1 := ⟨d - 1, by omega⟩
  refine ev_of (by decide) (Nat.le_of_ble_eq_true rfl) ?_
  rw [f_Reader_readHeir] at h
  show RN xs L al (Ev xs L al d) 26 0 [(0, .ref 2), (1, .ref x1), (2, .int x2)] [] (m, S) (some (.int r0)) (mf, S)
  refine rsn 1 (t := (1, [(0, .ref 2), (1, .ref x1), (2, .int x2)], [.ref x1])) rfl ?_
  obtain ⟨r1, g1, h⟩ := b1_some h
  refine rcV 27 x1 [] rfl rfl rfl (hSh.kW hx1 _) (Nat.le_of_ble_eq_true rfl) rfl (e_Will_hasRoomForHeir N (by omega) hSh hx1 g1) ?_
  show RN xs L al (Ev xs L al d) 26 4 [(0, .ref 2), (1, .ref x1), (2, .int x2)] [.int r1] (m, S) (some (.int r0)) (mf, S)
  by_cases c2 : r1 = 0
  · rw [if_pos c2] at h
    refine rjf (a := (9, [(0, .ref 2), (1, .ref x1), (2, .int x2)], [])) (b := (7, [(0, .ref 2), (1, .ref x1), (2, .int x2)], [])) rfl rfl (fun q => q c2) ?_
    refine rsn 1 (t := (8, [(0, .ref 2), (1, .ref x1), (2, .int x2)], [.int 0])) rfl ?_
    cases h
    exact rret rfl ⟨rfl, rfl, _, _, rfl, rfl, rfl, rfl⟩
  · rw [if_neg c2] at h
    refine rjt (a := (9, [(0, .ref 2), (1, .ref x1), (2, .int x2)], [])) (b := (7, [(0, .ref 2), (1, .ref x1), (2, .int x2)], [])) rfl rfl c2 ?_
    refine rsn 1 (t := (10, [(0, .ref 2), (1, .ref x1), (2, .int x2)], [.ref 2])) rfl ?_
    obtain ⟨m3, g3, h⟩ := b3_some h
    refine rcV 19 2 [] rfl rfl rfl (hSh.1.k 2 rfl _) (Nat.le_of_ble_eq_true rfl) rfl (e_Reader_step N (by omega) hSh g3) ?_
    show RN xs L al (Ev xs L al d) 26 13 [(0, .ref 2), (1, .ref x1), (2, .int x2)] [] (m3, S) (some (.int r0)) (mf, S)
    refine rsn 1 (t := (14, [(0, .ref 2), (1, .ref x1), (2, .int x2)], [.ref 2])) rfl ?_
    obtain ⟨r4, g4, h⟩ := b1_some h
    refine rcV 28 2 [] rfl rfl rfl (hSh.1.k 2 rfl _) (Nat.le_of_ble_eq_true rfl) rfl (e_Reader_isName N (by omega) hSh g4) ?_
    show RN xs L al (Ev xs L al d) 26 17 [(0, .ref 2), (1, .ref x1), (2, .int x2)] [.int r4] (m3, S) (some (.int r0)) (mf, S)
    by_cases c5 : r4 = 0
    · rw [if_pos c5] at h
      refine rjt (a := (32, [(0, .ref 2), (1, .ref x1), (2, .int x2)], [])) (b := (20, [(0, .ref 2), (1, .ref x1), (2, .int x2)], [])) rfl rfl c5 ?_
      refine rsn 1 (t := (33, [(0, .ref 2), (1, .ref x1), (2, .int x2)], [.int 0])) rfl ?_
      cases h
      exact rret rfl ⟨rfl, rfl, _, _, rfl, rfl, rfl, rfl⟩
    · rw [if_neg c5] at h
      refine rjf (a := (32, [(0, .ref 2), (1, .ref x1), (2, .int x2)], [])) (b := (20, [(0, .ref 2), (1, .ref x1), (2, .int x2)], [])) rfl rfl c5 ?_
      refine rsn 2 (t := (22, [(0, .ref 2), (1, .ref x1), (2, .int x2)], [.ref 2, .ref x1])) rfl ?_
      refine pgJ rfl rfl rfl (hSh.1.k 2 rfl _) ?_
      show RN xs L al (Ev xs L al d) 26 25 [(0, .ref 2), (1, .ref x1), (2, .int x2)] [.long ((mJ m3 2 6)), .ref x1] (m3, S) (some (.int r0)) (mf, S)
      obtain ⟨r6, g6, h⟩ := b1_some h
      refine rcV 29 x1 [.long ((mJ m3 2 6))] rfl rfl rfl (hSh.kW hx1 _) (Nat.le_of_ble_eq_true rfl) rfl (e_Will_heirNamed N (by omega) hSh hx1 g6) ?_
      show RN xs L al (Ev xs L al d) 26 28 [(0, .ref 2), (1, .ref x1), (2, .int x2)] [.int r6] (m3, S) (some (.int r0)) (mf, S)
      refine rsn 1 (t := (29, [(0, .ref 2), (1, .ref x1), (2, .int x2)], [.int ((-1)), .int r6])) rfl ?_
      by_cases c7 : r6 = ((-1))
      · rw [if_pos c7] at h
        refine rjt (a := (34, [(0, .ref 2), (1, .ref x1), (2, .int x2)], [])) (b := (32, [(0, .ref 2), (1, .ref x1), (2, .int x2)], [])) rfl rfl c7 ?_
        refine rsn 1 (t := (35, [(0, .ref 2), (1, .ref x1), (2, .int x2)], [.ref 2])) rfl ?_
        refine pgJ rfl rfl rfl (hSh.1.k 2 rfl _) ?_
        show RN xs L al (Ev xs L al d) 26 38 [(0, .ref 2), (1, .ref x1), (2, .int x2)] [.long ((mJ m3 2 6))] (m3, S) (some (.int r0)) (mf, S)
        refine rsn 2 (t := (40, [(3, .long ((mJ m3 2 6))), (0, .ref 2), (1, .ref x1), (2, .int x2)], [.ref 2])) rfl ?_
        obtain ⟨m8, g8, h⟩ := b3_some h
        refine rcV 19 2 [] rfl rfl rfl (hSh.1.k 2 rfl _) (Nat.le_of_ble_eq_true rfl) rfl (e_Reader_step N (by omega) hSh g8) ?_
        show RN xs L al (Ev xs L al d) 26 43 [(3, .long ((mJ m3 2 6))), (0, .ref 2), (1, .ref x1), (2, .int x2)] [] (m8, S) (some (.int r0)) (mf, S)
        refine rsn 2 (t := (46, [(5, .int 0), (3, .long ((mJ m3 2 6))), (0, .ref 2), (1, .ref x1), (2, .int x2)], [])) rfl ?_
        have ex46 : ∀ (z9_5 : Int32) (m9 : Mm), ((if ((mI m9 2 3)) = 4 then b3 (f_Will_addHeir N S x1 ((mJ m3 2 6)) x2 m9) fun m11 => b3 (f_Reader_step N S m11) fun m12 => some (1, m12) else some (0, m9))) = some (r0, mf) → RN xs L al (Ev xs L al d) 26 84 [(0, .ref 2), (1, .ref x1), (2, .int x2), (3, .long ((mJ m3 2 6)))] [] (m9, S) (some (.int r0)) (mf, S) := by
          intro z9_5 m9 h
          try dsimp only at h
          refine rsn 1 (t := (85, [(0, .ref 2), (1, .ref x1), (2, .int x2), (3, .long ((mJ m3 2 6)))], [.ref 2])) rfl ?_
          refine pgI rfl rfl rfl (hSh.1.k 2 rfl _) ?_
          show RN xs L al (Ev xs L al d) 26 88 [(0, .ref 2), (1, .ref x1), (2, .int x2), (3, .long ((mJ m3 2 6)))] [.int ((mI m9 2 3))] (m9, S) (some (.int r0)) (mf, S)
          refine rsn 1 (t := (89, [(0, .ref 2), (1, .ref x1), (2, .int x2), (3, .long ((mJ m3 2 6)))], [.int 4, .int ((mI m9 2 3))])) rfl ?_
          by_cases c10 : ((mI m9 2 3)) = 4
          · rw [if_pos c10] at h
            refine rjt (a := (94, [(0, .ref 2), (1, .ref x1), (2, .int x2), (3, .long ((mJ m3 2 6)))], [])) (b := (92, [(0, .ref 2), (1, .ref x1), (2, .int x2), (3, .long ((mJ m3 2 6)))], [])) rfl rfl c10 ?_
            refine rsn 3 (t := (97, [(0, .ref 2), (1, .ref x1), (2, .int x2), (3, .long ((mJ m3 2 6)))], [.int x2, .long ((mJ m3 2 6)), .ref x1])) rfl ?_
            obtain ⟨m11, g11, h⟩ := b3_some h
            refine rcV 32 x1 [.long ((mJ m3 2 6)), .int x2] rfl rfl rfl (hSh.kW hx1 _) (Nat.le_of_ble_eq_true rfl) rfl (e_Will_addHeir N (by omega) hSh hx1 g11) ?_
            show RN xs L al (Ev xs L al d) 26 100 [(0, .ref 2), (1, .ref x1), (2, .int x2), (3, .long ((mJ m3 2 6)))] [] (m11, S) (some (.int r0)) (mf, S)
            refine rsn 1 (t := (101, [(0, .ref 2), (1, .ref x1), (2, .int x2), (3, .long ((mJ m3 2 6)))], [.ref 2])) rfl ?_
            obtain ⟨m12, g12, h⟩ := b3_some h
            refine rcV 19 2 [] rfl rfl rfl (hSh.1.k 2 rfl _) (Nat.le_of_ble_eq_true rfl) rfl (e_Reader_step N (by omega) hSh g12) ?_
            show RN xs L al (Ev xs L al d) 26 104 [(0, .ref 2), (1, .ref x1), (2, .int x2), (3, .long ((mJ m3 2 6)))] [] (m12, S) (some (.int r0)) (mf, S)
            refine rsn 1 (t := (105, [(0, .ref 2), (1, .ref x1), (2, .int x2), (3, .long ((mJ m3 2 6)))], [.int 1])) rfl ?_
            cases h
            exact rret rfl ⟨rfl, rfl, _, _, rfl, rfl, rfl, rfl⟩
          · rw [if_neg c10] at h
            refine rjf (a := (94, [(0, .ref 2), (1, .ref x1), (2, .int x2), (3, .long ((mJ m3 2 6)))], [])) (b := (92, [(0, .ref 2), (1, .ref x1), (2, .int x2), (3, .long ((mJ m3 2 6)))], [])) rfl rfl c10 ?_
            refine rsn 1 (t := (93, [(0, .ref 2), (1, .ref x1), (2, .int x2), (3, .long ((mJ m3 2 6)))], [.int 0])) rfl ?_
            cases h
            exact rret rfl ⟨rfl, rfl, _, _, rfl, rfl, rfl, rfl⟩
        have lp46 : ∀ (n : Nat) (y13_5 : Int32) (m13 : Mm), (f_Reader_readHeir_L46 N S x1 x2 ((mJ m3 2 6)) (fun (z9_5 : Int32) (m9 : Mm) => (if ((mI m9 2 3)) = 4 then b3 (f_Will_addHeir N S x1 ((mJ m3 2 6)) x2 m9) fun m11 => b3 (f_Reader_step N S m11) fun m12 => some (1, m12) else some (0, m9))) n y13_5 m13) = some (r0, mf) → RN xs L al (Ev xs L al d) 26 46 [(0, .ref 2), (1, .ref x1), (2, .int x2), (3, .long ((mJ m3 2 6))), (5, .int y13_5)] [] (m13, S) (some (.int r0)) (mf, S) := by
          intro n
          induction n with
          | zero => intro y13_5 m13 h; exact absurd h (by simp [f_Reader_readHeir_L46])
          | succ n46 ih46 =>
            intro y13_5 m13 h
            try dsimp only at h
            rw [f_Reader_readHeir_L46] at h
            try dsimp only at h
            exact rsub [(0, .ref 2), (1, .ref x1), (2, .int x2), (3, .long ((mJ m3 2 6))), (5, .int y13_5)] ⟨rfl, ⟨rfl, ⟨rfl, ⟨rfl, ⟨rfl, trivial⟩⟩⟩⟩⟩ ⟨rfl, ⟨rfl, ⟨rfl, ⟨rfl, ⟨rfl, trivial⟩⟩⟩⟩⟩ (ih46 y13_5 m13 h)
        exact rsub [(0, .ref 2), (1, .ref x1), (2, .int x2), (3, .long ((mJ m3 2 6))), (5, .int 0)] ⟨rfl, ⟨rfl, ⟨rfl, ⟨rfl, ⟨rfl, trivial⟩⟩⟩⟩⟩ ⟨rfl, ⟨rfl, ⟨rfl, ⟨rfl, ⟨rfl, trivial⟩⟩⟩⟩⟩ (lp46 N 0 m8 h)
      · rw [if_neg c7] at h
        refine rjf (a := (34, [(0, .ref 2), (1, .ref x1), (2, .int x2)], [])) (b := (32, [(0, .ref 2), (1, .ref x1), (2, .int x2)], [])) rfl rfl c7 ?_
        refine rsn 1 (t := (33, [(0, .ref 2), (1, .ref x1), (2, .int x2)], [.int 0])) rfl ?_
        cases h
        exact rret rfl ⟨rfl, rfl, _, _, rfl, rfl, rfl, rfl⟩
def f_Will_hasRoomForDay (N : Nat) (S : St) (x0 : Nat) (m : Mm) : Option (Int32) := (if 6 ≤ ((mI m x0 1)) then some 0 else some 1)
set_option maxRecDepth 20000 in
set_option maxHeartbeats 4000000 in
theorem e_Will_hasRoomForDay {xs : Nat → Int32} {L : Nat} {al : Bool} (N : Nat) {d : Nat} (hd : 1 ≤ d) {S : St} (hSh : ShC S) {x0 : Nat} (hx0 : x0 ∈ wKl) {m : Mm} {r0 : Int32} (h : f_Will_hasRoomForDay N S x0 m = some r0) : Ev xs L al d 34 [.ref x0] (m, S) (some (.int r0)) (m, S) := by
  obtain ⟨d, rfl⟩ : ∃ e, d = e + 1 := ⟨d - 1, by omega⟩
  refine ev_of (by decide) (Nat.le_of_ble_eq_true rfl) ?_
  rw [f_Will_hasRoomForDay] at h
  show RN xs L al (Ev xs L al d) 34 0 [(0, .ref x0)] [] (m, S) (some (.int r0)) (m, S)
  refine rsn 1 (t := (1, [(0, .ref x0)], [.ref x0])) rfl ?_
  refine pgI rfl rfl rfl (hSh.kW hx0 _) ?_
  show RN xs L al (Ev xs L al d) 34 4 [(0, .ref x0)] [.int ((mI m x0 1))] (m, S) (some (.int r0)) (m, S)
  refine rsn 1 (t := (6, [(0, .ref x0)], [.int 6, .int ((mI m x0 1))])) rfl ?_
  by_cases c1 : 6 ≤ ((mI m x0 1))
  · rw [if_pos c1] at h
    refine rjt (a := (13, [(0, .ref x0)], [])) (b := (9, [(0, .ref x0)], [])) rfl rfl c1 ?_
    refine rsn 1 (t := (14, [(0, .ref x0)], [.int 0])) rfl ?_
    cases h
    exact rret rfl ⟨rfl, rfl, _, _, rfl, rfl, rfl, rfl⟩
  · rw [if_neg c1] at h
    refine rjf (a := (13, [(0, .ref x0)], [])) (b := (9, [(0, .ref x0)], [])) rfl rfl c1 ?_
    refine rsn 2 (t := (14, [(0, .ref x0)], [.int 1])) rfl ?_
    cases h
    exact rret rfl ⟨rfl, rfl, _, _, rfl, rfl, rfl, rfl⟩
def f_Will_isLate (N : Nat) (S : St) (x0 : Nat) (x1 : Int32) (m : Mm) : Option (Int32) := (if x1 < 0 then some 0 else (if ((mI m x0 0)) ≤ x1 then some 0 else (if ((((isr ((mI m x0 6)) x1)) &&& 1)) = 1 then some 1 else some 0)))
set_option maxRecDepth 20000 in
set_option maxHeartbeats 4000000 in
theorem e_Will_isLate {xs : Nat → Int32} {L : Nat} {al : Bool} (N : Nat) {d : Nat} (hd : 1 ≤ d) {S : St} (hSh : ShC S) {x0 : Nat} {x1 : Int32} (hx0 : x0 ∈ wKl) {m : Mm} {r0 : Int32} (h : f_Will_isLate N S x0 x1 m = some r0) : Ev xs L al d 36 [.ref x0, .int x1] (m, S) (some (.int r0)) (m, S) := by
  obtain ⟨d, rfl⟩ : ∃ e, d = e + 1 := ⟨d - 1, by omega⟩
  refine ev_of (by decide) (Nat.le_of_ble_eq_true rfl) ?_
  rw [f_Will_isLate] at h
  show RN xs L al (Ev xs L al d) 36 0 [(0, .ref x0), (1, .int x1)] [] (m, S) (some (.int r0)) (m, S)
  refine rsn 1 (t := (1, [(0, .ref x0), (1, .int x1)], [.int x1])) rfl ?_
  by_cases c1 : x1 < 0
  · rw [if_pos c1] at h
    refine rjt (a := (28, [(0, .ref x0), (1, .int x1)], [])) (b := (4, [(0, .ref x0), (1, .int x1)], [])) rfl rfl c1 ?_
    refine rsn 1 (t := (29, [(0, .ref x0), (1, .int x1)], [.int 0])) rfl ?_
    cases h
    exact rret rfl ⟨rfl, rfl, _, _, rfl, rfl, rfl, rfl⟩
  · rw [if_neg c1] at h
    refine rjf (a := (28, [(0, .ref x0), (1, .int x1)], [])) (b := (4, [(0, .ref x0), (1, .int x1)], [])) rfl rfl c1 ?_
    refine rsn 2 (t := (6, [(0, .ref x0), (1, .int x1)], [.ref x0, .int x1])) rfl ?_
    refine pgI rfl rfl rfl (hSh.kW hx0 _) ?_
    show RN xs L al (Ev xs L al d) 36 9 [(0, .ref x0), (1, .int x1)] [.int ((mI m x0 0)), .int x1] (m, S) (some (.int r0)) (m, S)
    by_cases c2 : ((mI m x0 0)) ≤ x1
    · rw [if_pos c2] at h
      refine rjt (a := (28, [(0, .ref x0), (1, .int x1)], [])) (b := (12, [(0, .ref x0), (1, .int x1)], [])) rfl rfl c2 ?_
      refine rsn 1 (t := (29, [(0, .ref x0), (1, .int x1)], [.int 0])) rfl ?_
      cases h
      exact rret rfl ⟨rfl, rfl, _, _, rfl, rfl, rfl, rfl⟩
    · rw [if_neg c2] at h
      refine rjf (a := (28, [(0, .ref x0), (1, .int x1)], [])) (b := (12, [(0, .ref x0), (1, .int x1)], [])) rfl rfl c2 ?_
      refine rsn 1 (t := (13, [(0, .ref x0), (1, .int x1)], [.ref x0])) rfl ?_
      refine pgI rfl rfl rfl (hSh.kW hx0 _) ?_
      show RN xs L al (Ev xs L al d) 36 16 [(0, .ref x0), (1, .int x1)] [.int ((mI m x0 6))] (m, S) (some (.int r0)) (m, S)
      refine rsn 5 (t := (21, [(0, .ref x0), (1, .int x1)], [.int 1, .int ((((isr ((mI m x0 6)) x1)) &&& 1))])) rfl ?_
      by_cases c3 : ((((isr ((mI m x0 6)) x1)) &&& 1)) = 1
      · rw [if_pos c3] at h
        refine rjf (a := (28, [(0, .ref x0), (1, .int x1)], [])) (b := (24, [(0, .ref x0), (1, .int x1)], [])) rfl rfl (fun q => q c3) ?_
        refine rsn 2 (t := (29, [(0, .ref x0), (1, .int x1)], [.int 1])) rfl ?_
        cases h
        exact rret rfl ⟨rfl, rfl, _, _, rfl, rfl, rfl, rfl⟩
      · rw [if_neg c3] at h
        refine rjt (a := (28, [(0, .ref x0), (1, .int x1)], [])) (b := (24, [(0, .ref x0), (1, .int x1)], [])) rfl rfl c3 ?_
        refine rsn 1 (t := (29, [(0, .ref x0), (1, .int x1)], [.int 0])) rfl ?_
        cases h
        exact rret rfl ⟨rfl, rfl, _, _, rfl, rfl, rfl, rfl⟩
def f_Will_putAlt (N : Nat) (S : St) (x0 : Nat) (x1 : Int32) (x2 : Int32) (x3 : Int32) (x4 : Int32) (m : Mm) : Option (Mm) := b1 (f_Will_hasRoomForDay N S x0 m) fun r1 => (if r1 = 0 then some m else (if x1 < 0 then some m else (if 3 ≤ x1 then some m else ck (ix ((((((mI m x0 1)) * 3)) + x1)) 18) (ck (ix ((((((mI m x0 1)) * 3)) + x1)) 18) (ck (ix ((((((mI m x0 1)) * 3)) + x1)) 18) (some (vX (vX (vX m ((x0 + 4)) (((((((mI m x0 1)) * 3)) + x1)).toNatClampNeg) x2) ((x0 + 5)) (((((((mI m x0 1)) * 3)) + x1)).toNatClampNeg) x3) ((x0 + 6)) (((((((mI m x0 1)) * 3)) + x1)).toNatClampNeg) x4)))))))
set_option maxRecDepth 20000 in
set_option maxHeartbeats 4000000 in
theorem e_Will_putAlt {xs : Nat → Int32} {L : Nat} {al : Bool} (N : Nat) {d : Nat} (hd : 2 ≤ d) {S : St} (hSh : ShC S) {x0 : Nat} {x1 : Int32} {x2 : Int32} {x3 : Int32} {x4 : Int32} (hx0 : x0 ∈ wKl) {m : Mm} {mf : Mm} (h : f_Will_putAlt N S x0 x1 x2 x3 x4 m = some mf) : Ev xs L al d 37 [.ref x0, .int x1, .int x2, .int x3, .int x4] (m, S) none (mf, S) := by
  obtain ⟨d, rfl⟩ : ∃ e, d = e + 1 := ⟨d - 1, by omega⟩
  refine ev_of (by decide) (Nat.le_of_ble_eq_true rfl) ?_
  rw [f_Will_putAlt] at h
  show RN xs L al (Ev xs L al d) 37 0 [(0, .ref x0), (1, .int x1), (2, .int x2), (3, .int x3), (4, .int x4)] [] (m, S) none (mf, S)
  refine rsn 1 (t := (1, [(0, .ref x0), (1, .int x1), (2, .int x2), (3, .int x3), (4, .int x4)], [.ref x0])) rfl ?_
  obtain ⟨r1, g1, h⟩ := b1_some h
  refine rcV 34 x0 [] rfl rfl rfl (hSh.kW hx0 _) (Nat.le_of_ble_eq_true rfl) rfl (e_Will_hasRoomForDay N (by omega) hSh hx0 g1) ?_
  show RN xs L al (Ev xs L al d) 37 4 [(0, .ref x0), (1, .int x1), (2, .int x2), (3, .int x3), (4, .int x4)] [.int r1] (m, S) none (mf, S)
  by_cases c2 : r1 = 0
  · rw [if_pos c2] at h
    refine rjt (a := (51, [(0, .ref x0), (1, .int x1), (2, .int x2), (3, .int x3), (4, .int x4)], [])) (b := (7, [(0, .ref x0), (1, .int x1), (2, .int x2), (3, .int x3), (4, .int x4)], [])) rfl rfl c2 ?_
    cases h
    exact rret rfl ⟨rfl, rfl, rfl, rfl, rfl⟩
  · rw [if_neg c2] at h
    refine rjf (a := (51, [(0, .ref x0), (1, .int x1), (2, .int x2), (3, .int x3), (4, .int x4)], [])) (b := (7, [(0, .ref x0), (1, .int x1), (2, .int x2), (3, .int x3), (4, .int x4)], [])) rfl rfl c2 ?_
    refine rsn 1 (t := (8, [(0, .ref x0), (1, .int x1), (2, .int x2), (3, .int x3), (4, .int x4)], [.int x1])) rfl ?_
    by_cases c3 : x1 < 0
    · rw [if_pos c3] at h
      refine rjt (a := (51, [(0, .ref x0), (1, .int x1), (2, .int x2), (3, .int x3), (4, .int x4)], [])) (b := (11, [(0, .ref x0), (1, .int x1), (2, .int x2), (3, .int x3), (4, .int x4)], [])) rfl rfl c3 ?_
      cases h
      exact rret rfl ⟨rfl, rfl, rfl, rfl, rfl⟩
    · rw [if_neg c3] at h
      refine rjf (a := (51, [(0, .ref x0), (1, .int x1), (2, .int x2), (3, .int x3), (4, .int x4)], [])) (b := (11, [(0, .ref x0), (1, .int x1), (2, .int x2), (3, .int x3), (4, .int x4)], [])) rfl rfl c3 ?_
      refine rsn 2 (t := (13, [(0, .ref x0), (1, .int x1), (2, .int x2), (3, .int x3), (4, .int x4)], [.int 3, .int x1])) rfl ?_
      by_cases c4 : 3 ≤ x1
      · rw [if_pos c4] at h
        refine rjt (a := (51, [(0, .ref x0), (1, .int x1), (2, .int x2), (3, .int x3), (4, .int x4)], [])) (b := (16, [(0, .ref x0), (1, .int x1), (2, .int x2), (3, .int x3), (4, .int x4)], [])) rfl rfl c4 ?_
        cases h
        exact rret rfl ⟨rfl, rfl, rfl, rfl, rfl⟩
      · rw [if_neg c4] at h
        refine rjf (a := (51, [(0, .ref x0), (1, .int x1), (2, .int x2), (3, .int x3), (4, .int x4)], [])) (b := (16, [(0, .ref x0), (1, .int x1), (2, .int x2), (3, .int x3), (4, .int x4)], [])) rfl rfl c4 ?_
        refine rsn 1 (t := (17, [(0, .ref x0), (1, .int x1), (2, .int x2), (3, .int x3), (4, .int x4)], [.ref x0])) rfl ?_
        refine pgI rfl rfl rfl (hSh.kW hx0 _) ?_
        show RN xs L al (Ev xs L al d) 37 20 [(0, .ref x0), (1, .int x1), (2, .int x2), (3, .int x3), (4, .int x4)] [.int ((mI m x0 1))] (m, S) none (mf, S)
        refine rsn 6 (t := (27, [(5, .int ((((((mI m x0 1)) * 3)) + x1))), (0, .ref x0), (1, .int x1), (2, .int x2), (3, .int x3), (4, .int x4)], [.ref x0])) rfl ?_
        refine rgR rfl rfl rfl (hSh.kW hx0 _) (hSh.rWa4 hx0 _) ?_
        refine rsn 2 (t := (33, [(5, .int ((((((mI m x0 1)) * 3)) + x1))), (0, .ref x0), (1, .int x1), (2, .int x2), (3, .int x3), (4, .int x4)], [.int x2, .int ((((((mI m x0 1)) * 3)) + x1)), .ref ((x0 + 4))])) rfl ?_
        obtain ⟨c5, h⟩ := ck_some h
        refine psI rfl (hSh.kWa4 hx0 _) (hSh.lWa4 hx0 _) c5 ?_
        refine rsn 1 (t := (35, [(5, .int ((((((mI m x0 1)) * 3)) + x1))), (0, .ref x0), (1, .int x1), (2, .int x2), (3, .int x3), (4, .int x4)], [.ref x0])) rfl ?_
        refine rgR rfl rfl rfl (hSh.kW hx0 _) (hSh.rWa5 hx0 _) ?_
        refine rsn 2 (t := (41, [(5, .int ((((((mI m x0 1)) * 3)) + x1))), (0, .ref x0), (1, .int x1), (2, .int x2), (3, .int x3), (4, .int x4)], [.int x3, .int ((((((mI m x0 1)) * 3)) + x1)), .ref ((x0 + 5))])) rfl ?_
        obtain ⟨c6, h⟩ := ck_some h
        refine psI rfl (hSh.kWa5 hx0 _) (hSh.lWa5 hx0 _) c6 ?_
        refine rsn 1 (t := (43, [(5, .int ((((((mI m x0 1)) * 3)) + x1))), (0, .ref x0), (1, .int x1), (2, .int x2), (3, .int x3), (4, .int x4)], [.ref x0])) rfl ?_
        refine rgR rfl rfl rfl (hSh.kW hx0 _) (hSh.rWa6 hx0 _) ?_
        refine rsn 2 (t := (50, [(5, .int ((((((mI m x0 1)) * 3)) + x1))), (0, .ref x0), (1, .int x1), (2, .int x2), (3, .int x3), (4, .int x4)], [.int x4, .int ((((((mI m x0 1)) * 3)) + x1)), .ref ((x0 + 6))])) rfl ?_
        obtain ⟨c7, h⟩ := ck_some h
        refine psI rfl (hSh.kWa6 hx0 _) (hSh.lWa6 hx0 _) c7 ?_
        cases h
        exact rret rfl ⟨rfl, rfl, rfl, rfl, rfl⟩
def f_Reader_readAlt (N : Nat) (S : St) (x1 : Nat) (x2 : Int32) (m : Mm) : Option (Int32 × Mm) := b1 (f_Reader_isNumber N S 1 ((12 - ((mI m 2 7)))) m) fun r1 => (if r1 = 0 then some (0, m) else b3 (f_Reader_step N S (vI m 2 7 ((((mI m 2 7)) + ((mI m 2 5)))))) fun m3 => (if ((mI m3 2 3)) = 1 then (jn (fun (y5 : Int32) (y6 : Int32) (m7 : Mm) => b3 (f_Will_putAlt N S x1 x2 ((mI m 2 5)) y6 y5 m7) fun m8 => b3 (f_Reader_step N S m8) fun m9 => some (1, m9)) (fun j153 => if ((mJ m3 2 6)) = 499967946343 then b3 (f_Reader_step N S m3) fun m20 => b1 (f_Reader_isNumber N S 0 2 m20) fun r21 => (if r21 = 0 then some (0, m20) else j153 ((mI m20 2 5)) 0 m20) else (if ((mJ m3 2 6)) = 427071202675 then b3 (f_Reader_step N S m3) fun m13 => b1 (f_Reader_isName N S m13) fun r14 => (jn (fun (s15 : Int32) => b1 (f_Will_isLate N S x1 s15 m13) fun r16 => (if r16 = 0 then some (0, m13) else j153 s15 1 m13)) (fun j127 => if r14 = 0 then j127 ((-1)) else b1 (f_Will_heirNamed N S x1 ((mJ m13 2 6)) m13) fun r19 => j127 r19)) else (if ((mJ m3 2 6)) = 1852796517 then j153 ((-1)) 2 m3 else some (0, m3))))) else some (0, m3)))
set_option maxRecDepth 20000 in
set_option maxHeartbeats 4000000 in
theorem e_Reader_readAlt {xs : Nat → Int32} {L : Nat} {al : Bool} (N : Nat) {d : Nat} (hd : 4 ≤ d) {S : St} (hSh : ShC S) {x1 : Nat} {x2 : Int32} (hx1 : x1 ∈ wKl) {m : Mm} {r0 : Int32} {mf : Mm} (h : f_Reader_readAlt N S x1 x2 m = some (r0, mf)) : Ev xs L al d 35 [.ref 2, .ref x1, .int x2] (m, S) (some (.int r0)) (mf, S) := by
  obtain ⟨d, rfl⟩ : ∃ e, d = e + 1 := ⟨d - 1, by omega⟩
  refine ev_of (by decide) (Nat.le_of_ble_eq_true rfl) ?_
  rw [f_Reader_readAlt] at h
  show RN xs L al (Ev xs L al d) 35 0 [(0, .ref 2), (1, .ref x1), (2, .int x2)] [] (m, S) (some (.int r0)) (mf, S)
  refine rsn 4 (t := (5, [(0, .ref 2), (1, .ref x1), (2, .int x2)], [.ref 2, .int 12, .int 1, .ref 2])) rfl ?_
  refine pgI rfl rfl rfl (hSh.1.k 2 rfl _) ?_
  show RN xs L al (Ev xs L al d) 35 8 [(0, .ref 2), (1, .ref x1), (2, .int x2)] [.int ((mI m 2 7)), .int 12, .int 1, .ref 2] (m, S) (some (.int r0)) (mf, S)
  refine rsn 1 (t := (9, [(0, .ref 2), (1, .ref x1), (2, .int x2)], [.int ((12 - ((mI m 2 7)))), .int 1, .ref 2])) rfl ?_
  obtain ⟨r1, g1, h⟩ := b1_some h
  refine rcV 30 2 [.int 1, .int ((12 - ((mI m 2 7))))] rfl rfl rfl (hSh.1.k 2 rfl _) (Nat.le_of_ble_eq_true rfl) rfl (e_Reader_isNumber N (by omega) hSh g1) ?_
  show RN xs L al (Ev xs L al d) 35 12 [(0, .ref 2), (1, .ref x1), (2, .int x2)] [.int r1] (m, S) (some (.int r0)) (mf, S)
  by_cases c2 : r1 = 0
  · rw [if_pos c2] at h
    refine rjf (a := (17, [(0, .ref 2), (1, .ref x1), (2, .int x2)], [])) (b := (15, [(0, .ref 2), (1, .ref x1), (2, .int x2)], [])) rfl rfl (fun q => q c2) ?_
    refine rsn 1 (t := (16, [(0, .ref 2), (1, .ref x1), (2, .int x2)], [.int 0])) rfl ?_
    cases h
    exact rret rfl ⟨rfl, rfl, _, _, rfl, rfl, rfl, rfl⟩
  · rw [if_neg c2] at h
    refine rjt (a := (17, [(0, .ref 2), (1, .ref x1), (2, .int x2)], [])) (b := (15, [(0, .ref 2), (1, .ref x1), (2, .int x2)], [])) rfl rfl c2 ?_
    refine rsn 1 (t := (18, [(0, .ref 2), (1, .ref x1), (2, .int x2)], [.ref 2])) rfl ?_
    refine pgI rfl rfl rfl (hSh.1.k 2 rfl _) ?_
    show RN xs L al (Ev xs L al d) 35 21 [(0, .ref 2), (1, .ref x1), (2, .int x2)] [.int ((mI m 2 5))] (m, S) (some (.int r0)) (mf, S)
    refine rsn 3 (t := (24, [(3, .int ((mI m 2 5))), (0, .ref 2), (1, .ref x1), (2, .int x2)], [.ref 2, .ref 2])) rfl ?_
    refine pgI rfl rfl rfl (hSh.1.k 2 rfl _) ?_
    show RN xs L al (Ev xs L al d) 35 27 [(3, .int ((mI m 2 5))), (0, .ref 2), (1, .ref x1), (2, .int x2)] [.int ((mI m 2 7)), .ref 2] (m, S) (some (.int r0)) (mf, S)
    refine rsn 2 (t := (29, [(3, .int ((mI m 2 5))), (0, .ref 2), (1, .ref x1), (2, .int x2)], [.int ((((mI m 2 7)) + ((mI m 2 5)))), .ref 2])) rfl ?_
    refine ppI rfl rfl rfl rfl (hSh.1.k 2 rfl _) ?_
    refine rsn 1 (t := (33, [(3, .int ((mI m 2 5))), (0, .ref 2), (1, .ref x1), (2, .int x2)], [.ref 2])) rfl ?_
    obtain ⟨m3, g3, h⟩ := b3_some h
    refine rcV 19 2 [] rfl rfl rfl (hSh.1.k 2 rfl _) (Nat.le_of_ble_eq_true rfl) rfl (e_Reader_step N (by omega) hSh g3) ?_
    show RN xs L al (Ev xs L al d) 35 36 [(3, .int ((mI m 2 5))), (0, .ref 2), (1, .ref x1), (2, .int x2)] [] (m3, S) (some (.int r0)) (mf, S)
    refine rsn 1 (t := (37, [(3, .int ((mI m 2 5))), (0, .ref 2), (1, .ref x1), (2, .int x2)], [.ref 2])) rfl ?_
    refine pgI rfl rfl rfl (hSh.1.k 2 rfl _) ?_
    show RN xs L al (Ev xs L al d) 35 40 [(3, .int ((mI m 2 5))), (0, .ref 2), (1, .ref x1), (2, .int x2)] [.int ((mI m3 2 3))] (m3, S) (some (.int r0)) (mf, S)
    refine rsn 1 (t := (41, [(3, .int ((mI m 2 5))), (0, .ref 2), (1, .ref x1), (2, .int x2)], [.int 1, .int ((mI m3 2 3))])) rfl ?_
    by_cases c4 : ((mI m3 2 3)) = 1
    · rw [if_pos c4] at h
      refine rjt (a := (46, [(3, .int ((mI m 2 5))), (0, .ref 2), (1, .ref x1), (2, .int x2)], [])) (b := (44, [(3, .int ((mI m 2 5))), (0, .ref 2), (1, .ref x1), (2, .int x2)], [])) rfl rfl c4 ?_
      refine rsn 5 (t := (53, [(5, .int 2), (4, .int ((-1))), (3, .int ((mI m 2 5))), (0, .ref 2), (1, .ref x1), (2, .int x2)], [.ref 2])) rfl ?_
      refine pgJ rfl rfl rfl (hSh.1.k 2 rfl _) ?_
      show RN xs L al (Ev xs L al d) 35 56 [(5, .int 2), (4, .int ((-1))), (3, .int ((mI m 2 5))), (0, .ref 2), (1, .ref x1), (2, .int x2)] [.long ((mJ m3 2 6))] (m3, S) (some (.int r0)) (mf, S)
      refine rsn 2 (t := (60, [(5, .int 2), (4, .int ((-1))), (3, .int ((mI m 2 5))), (0, .ref 2), (1, .ref x1), (2, .int x2)], [.int ((lg_cmp ((mJ m3 2 6)) 499967946343))])) rfl ?_
      have jp153 : ∀ (y5 : Int32) (y6 : Int32) (m7 : Mm), (b3 (f_Will_putAlt N S x1 x2 ((mI m 2 5)) y6 y5 m7) fun m8 => b3 (f_Reader_step N S m8) fun m9 => some (1, m9)) = some (r0, mf) → RN xs L al (Ev xs L al d) 35 153 [(0, .ref 2), (1, .ref x1), (2, .int x2), (3, .int ((mI m 2 5))), (4, .int y5), (5, .int y6)] [] (m7, S) (some (.int r0)) (mf, S) := by
        intro y5 y6 m7 h
        try dsimp only at h
        refine rsn 5 (t := (160, [(0, .ref 2), (1, .ref x1), (2, .int x2), (3, .int ((mI m 2 5))), (4, .int y5), (5, .int y6)], [.int y5, .int y6, .int ((mI m 2 5)), .int x2, .ref x1])) rfl ?_
        obtain ⟨m8, g8, h⟩ := b3_some h
        refine rcV 37 x1 [.int x2, .int ((mI m 2 5)), .int y6, .int y5] rfl rfl rfl (hSh.kW hx1 _) (Nat.le_of_ble_eq_true rfl) rfl (e_Will_putAlt N (by omega) hSh hx1 g8) ?_
        show RN xs L al (Ev xs L al d) 35 163 [(0, .ref 2), (1, .ref x1), (2, .int x2), (3, .int ((mI m 2 5))), (4, .int y5), (5, .int y6)] [] (m8, S) (some (.int r0)) (mf, S)
        refine rsn 1 (t := (164, [(0, .ref 2), (1, .ref x1), (2, .int x2), (3, .int ((mI m 2 5))), (4, .int y5), (5, .int y6)], [.ref 2])) rfl ?_
        obtain ⟨m9, g9, h⟩ := b3_some h
        refine rcV 19 2 [] rfl rfl rfl (hSh.1.k 2 rfl _) (Nat.le_of_ble_eq_true rfl) rfl (e_Reader_step N (by omega) hSh g9) ?_
        show RN xs L al (Ev xs L al d) 35 167 [(0, .ref 2), (1, .ref x1), (2, .int x2), (3, .int ((mI m 2 5))), (4, .int y5), (5, .int y6)] [] (m9, S) (some (.int r0)) (mf, S)
        refine rsn 1 (t := (168, [(0, .ref 2), (1, .ref x1), (2, .int x2), (3, .int ((mI m 2 5))), (4, .int y5), (5, .int y6)], [.int 1])) rfl ?_
        cases h
        exact rret rfl ⟨rfl, rfl, _, _, rfl, rfl, rfl, rfl⟩
      rw [jn] at h
      try dsimp only at h
      by_cases c10 : ((mJ m3 2 6)) = 499967946343
      · rw [if_pos c10] at h
        refine rjf (a := (90, [(5, .int 2), (4, .int ((-1))), (3, .int ((mI m 2 5))), (0, .ref 2), (1, .ref x1), (2, .int x2)], [])) (b := (63, [(5, .int 2), (4, .int ((-1))), (3, .int ((mI m 2 5))), (0, .ref 2), (1, .ref x1), (2, .int x2)], [])) rfl rfl (fun q => q (lgc_eq.mpr c10)) ?_
        refine rsn 3 (t := (67, [(5, .int 0), (4, .int ((-1))), (3, .int ((mI m 2 5))), (0, .ref 2), (1, .ref x1), (2, .int x2)], [.ref 2])) rfl ?_
        obtain ⟨m20, g20, h⟩ := b3_some h
        refine rcV 19 2 [] rfl rfl rfl (hSh.1.k 2 rfl _) (Nat.le_of_ble_eq_true rfl) rfl (e_Reader_step N (by omega) hSh g20) ?_
        show RN xs L al (Ev xs L al d) 35 70 [(5, .int 0), (4, .int ((-1))), (3, .int ((mI m 2 5))), (0, .ref 2), (1, .ref x1), (2, .int x2)] [] (m20, S) (some (.int r0)) (mf, S)
        refine rsn 3 (t := (73, [(5, .int 0), (4, .int ((-1))), (3, .int ((mI m 2 5))), (0, .ref 2), (1, .ref x1), (2, .int x2)], [.int 2, .int 0, .ref 2])) rfl ?_
        obtain ⟨r21, g21, h⟩ := b1_some h
        refine rcV 30 2 [.int 0, .int 2] rfl rfl rfl (hSh.1.k 2 rfl _) (Nat.le_of_ble_eq_true rfl) rfl (e_Reader_isNumber N (by omega) hSh g21) ?_
        show RN xs L al (Ev xs L al d) 35 76 [(5, .int 0), (4, .int ((-1))), (3, .int ((mI m 2 5))), (0, .ref 2), (1, .ref x1), (2, .int x2)] [.int r21] (m20, S) (some (.int r0)) (mf, S)
        by_cases c22 : r21 = 0
        · rw [if_pos c22] at h
          refine rjf (a := (81, [(5, .int 0), (4, .int ((-1))), (3, .int ((mI m 2 5))), (0, .ref 2), (1, .ref x1), (2, .int x2)], [])) (b := (79, [(5, .int 0), (4, .int ((-1))), (3, .int ((mI m 2 5))), (0, .ref 2), (1, .ref x1), (2, .int x2)], [])) rfl rfl (fun q => q c22) ?_
          refine rsn 1 (t := (80, [(5, .int 0), (4, .int ((-1))), (3, .int ((mI m 2 5))), (0, .ref 2), (1, .ref x1), (2, .int x2)], [.int 0])) rfl ?_
          cases h
          exact rret rfl ⟨rfl, rfl, _, _, rfl, rfl, rfl, rfl⟩
        · rw [if_neg c22] at h
          refine rjt (a := (81, [(5, .int 0), (4, .int ((-1))), (3, .int ((mI m 2 5))), (0, .ref 2), (1, .ref x1), (2, .int x2)], [])) (b := (79, [(5, .int 0), (4, .int ((-1))), (3, .int ((mI m 2 5))), (0, .ref 2), (1, .ref x1), (2, .int x2)], [])) rfl rfl c22 ?_
          refine rsn 1 (t := (82, [(5, .int 0), (4, .int ((-1))), (3, .int ((mI m 2 5))), (0, .ref 2), (1, .ref x1), (2, .int x2)], [.ref 2])) rfl ?_
          refine pgI rfl rfl rfl (hSh.1.k 2 rfl _) ?_
          show RN xs L al (Ev xs L al d) 35 85 [(5, .int 0), (4, .int ((-1))), (3, .int ((mI m 2 5))), (0, .ref 2), (1, .ref x1), (2, .int x2)] [.int ((mI m20 2 5))] (m20, S) (some (.int r0)) (mf, S)
          refine rsn 2 (t := (153, [(4, .int ((mI m20 2 5))), (5, .int 0), (3, .int ((mI m 2 5))), (0, .ref 2), (1, .ref x1), (2, .int x2)], [])) rfl ?_
          exact rsub [(0, .ref 2), (1, .ref x1), (2, .int x2), (3, .int ((mI m 2 5))), (4, .int ((mI m20 2 5))), (5, .int 0)] ⟨rfl, ⟨rfl, ⟨rfl, ⟨rfl, ⟨rfl, ⟨rfl, trivial⟩⟩⟩⟩⟩⟩ ⟨rfl, ⟨rfl, ⟨rfl, ⟨rfl, ⟨rfl, ⟨rfl, trivial⟩⟩⟩⟩⟩⟩ (jp153 ((mI m20 2 5)) 0 m20 h)
      · rw [if_neg c10] at h
        refine rjt (a := (90, [(5, .int 2), (4, .int ((-1))), (3, .int ((mI m 2 5))), (0, .ref 2), (1, .ref x1), (2, .int x2)], [])) (b := (63, [(5, .int 2), (4, .int ((-1))), (3, .int ((mI m 2 5))), (0, .ref 2), (1, .ref x1), (2, .int x2)], [])) rfl rfl (fun q => c10 (lgc_eq.mp q)) ?_
        refine rsn 1 (t := (91, [(5, .int 2), (4, .int ((-1))), (3, .int ((mI m 2 5))), (0, .ref 2), (1, .ref x1), (2, .int x2)], [.ref 2])) rfl ?_
        refine pgJ rfl rfl rfl (hSh.1.k 2 rfl _) ?_
        show RN xs L al (Ev xs L al d) 35 94 [(5, .int 2), (4, .int ((-1))), (3, .int ((mI m 2 5))), (0, .ref 2), (1, .ref x1), (2, .int x2)] [.long ((mJ m3 2 6))] (m3, S) (some (.int r0)) (mf, S)
        refine rsn 2 (t := (98, [(5, .int 2), (4, .int ((-1))), (3, .int ((mI m 2 5))), (0, .ref 2), (1, .ref x1), (2, .int x2)], [.int ((lg_cmp ((mJ m3 2 6)) 427071202675))])) rfl ?_
        by_cases c11 : ((mJ m3 2 6)) = 427071202675
        · rw [if_pos c11] at h
          refine rjf (a := (140, [(5, .int 2), (4, .int ((-1))), (3, .int ((mI m 2 5))), (0, .ref 2), (1, .ref x1), (2, .int x2)], [])) (b := (101, [(5, .int 2), (4, .int ((-1))), (3, .int ((mI m 2 5))), (0, .ref 2), (1, .ref x1), (2, .int x2)], [])) rfl rfl (fun q => q (lgc_eq.mpr c11)) ?_
          refine rsn 3 (t := (105, [(5, .int 1), (4, .int ((-1))), (3, .int ((mI m 2 5))), (0, .ref 2), (1, .ref x1), (2, .int x2)], [.ref 2])) rfl ?_
          obtain ⟨m13, g13, h⟩ := b3_some h
          refine rcV 19 2 [] rfl rfl rfl (hSh.1.k 2 rfl _) (Nat.le_of_ble_eq_true rfl) rfl (e_Reader_step N (by omega) hSh g13) ?_
          show RN xs L al (Ev xs L al d) 35 108 [(5, .int 1), (4, .int ((-1))), (3, .int ((mI m 2 5))), (0, .ref 2), (1, .ref x1), (2, .int x2)] [] (m13, S) (some (.int r0)) (mf, S)
          refine rsn 1 (t := (109, [(5, .int 1), (4, .int ((-1))), (3, .int ((mI m 2 5))), (0, .ref 2), (1, .ref x1), (2, .int x2)], [.ref 2])) rfl ?_
          obtain ⟨r14, g14, h⟩ := b1_some h
          refine rcV 28 2 [] rfl rfl rfl (hSh.1.k 2 rfl _) (Nat.le_of_ble_eq_true rfl) rfl (e_Reader_isName N (by omega) hSh g14) ?_
          show RN xs L al (Ev xs L al d) 35 112 [(5, .int 1), (4, .int ((-1))), (3, .int ((mI m 2 5))), (0, .ref 2), (1, .ref x1), (2, .int x2)] [.int r14] (m13, S) (some (.int r0)) (mf, S)
          have jp127 : ∀ (s15 : Int32), (((fun j153 => b1 (f_Will_isLate N S x1 s15 m13) fun r16 => (if r16 = 0 then some (0, m13) else j153 s15 1 m13)) (fun (y5 : Int32) (y6 : Int32) (m7 : Mm) => b3 (f_Will_putAlt N S x1 x2 ((mI m 2 5)) y6 y5 m7) fun m8 => b3 (f_Reader_step N S m8) fun m9 => some (1, m9)))) = some (r0, mf) → RN xs L al (Ev xs L al d) 35 127 [(0, .ref 2), (1, .ref x1), (2, .int x2), (3, .int ((mI m 2 5))), (5, .int 1)] [.int s15] (m13, S) (some (.int r0)) (mf, S) := by
            intro s15 h
            try dsimp only at h
            refine rsn 3 (t := (132, [(4, .int s15), (0, .ref 2), (1, .ref x1), (2, .int x2), (3, .int ((mI m 2 5))), (5, .int 1)], [.int s15, .ref x1])) rfl ?_
            obtain ⟨r16, g16, h⟩ := b1_some h
            refine rcV 36 x1 [.int s15] rfl rfl rfl (hSh.kW hx1 _) (Nat.le_of_ble_eq_true rfl) rfl (e_Will_isLate N (by omega) hSh hx1 g16) ?_
            show RN xs L al (Ev xs L al d) 35 135 [(4, .int s15), (0, .ref 2), (1, .ref x1), (2, .int x2), (3, .int ((mI m 2 5))), (5, .int 1)] [.int r16] (m13, S) (some (.int r0)) (mf, S)
            by_cases c17 : r16 = 0
            · rw [if_pos c17] at h
              refine rjf (a := (153, [(4, .int s15), (0, .ref 2), (1, .ref x1), (2, .int x2), (3, .int ((mI m 2 5))), (5, .int 1)], [])) (b := (138, [(4, .int s15), (0, .ref 2), (1, .ref x1), (2, .int x2), (3, .int ((mI m 2 5))), (5, .int 1)], [])) rfl rfl (fun q => q c17) ?_
              refine rsn 1 (t := (139, [(4, .int s15), (0, .ref 2), (1, .ref x1), (2, .int x2), (3, .int ((mI m 2 5))), (5, .int 1)], [.int 0])) rfl ?_
              cases h
              exact rret rfl ⟨rfl, rfl, _, _, rfl, rfl, rfl, rfl⟩
            · rw [if_neg c17] at h
              refine rjt (a := (153, [(4, .int s15), (0, .ref 2), (1, .ref x1), (2, .int x2), (3, .int ((mI m 2 5))), (5, .int 1)], [])) (b := (138, [(4, .int s15), (0, .ref 2), (1, .ref x1), (2, .int x2), (3, .int ((mI m 2 5))), (5, .int 1)], [])) rfl rfl c17 ?_
              exact rsub [(0, .ref 2), (1, .ref x1), (2, .int x2), (3, .int ((mI m 2 5))), (4, .int s15), (5, .int 1)] ⟨rfl, ⟨rfl, ⟨rfl, ⟨rfl, ⟨rfl, ⟨rfl, trivial⟩⟩⟩⟩⟩⟩ ⟨rfl, ⟨rfl, ⟨rfl, ⟨rfl, ⟨rfl, ⟨rfl, trivial⟩⟩⟩⟩⟩⟩ (jp153 s15 1 m13 h)
          rw [jn] at h
          try dsimp only at h
          by_cases c18 : r14 = 0
          · rw [if_pos c18] at h
            refine rjt (a := (126, [(5, .int 1), (4, .int ((-1))), (3, .int ((mI m 2 5))), (0, .ref 2), (1, .ref x1), (2, .int x2)], [])) (b := (115, [(5, .int 1), (4, .int ((-1))), (3, .int ((mI m 2 5))), (0, .ref 2), (1, .ref x1), (2, .int x2)], [])) rfl rfl c18 ?_
            refine rsn 1 (t := (127, [(5, .int 1), (4, .int ((-1))), (3, .int ((mI m 2 5))), (0, .ref 2), (1, .ref x1), (2, .int x2)], [.int ((-1))])) rfl ?_
            exact rsub [(0, .ref 2), (1, .ref x1), (2, .int x2), (3, .int ((mI m 2 5))), (5, .int 1)] ⟨rfl, ⟨rfl, ⟨rfl, ⟨rfl, ⟨rfl, trivial⟩⟩⟩⟩⟩ ⟨rfl, ⟨rfl, ⟨rfl, ⟨rfl, ⟨rfl, trivial⟩⟩⟩⟩⟩ (jp127 ((-1)) h)
          · rw [if_neg c18] at h
            refine rjf (a := (126, [(5, .int 1), (4, .int ((-1))), (3, .int ((mI m 2 5))), (0, .ref 2), (1, .ref x1), (2, .int x2)], [])) (b := (115, [(5, .int 1), (4, .int ((-1))), (3, .int ((mI m 2 5))), (0, .ref 2), (1, .ref x1), (2, .int x2)], [])) rfl rfl c18 ?_
            refine rsn 2 (t := (117, [(5, .int 1), (4, .int ((-1))), (3, .int ((mI m 2 5))), (0, .ref 2), (1, .ref x1), (2, .int x2)], [.ref 2, .ref x1])) rfl ?_
            refine pgJ rfl rfl rfl (hSh.1.k 2 rfl _) ?_
            show RN xs L al (Ev xs L al d) 35 120 [(5, .int 1), (4, .int ((-1))), (3, .int ((mI m 2 5))), (0, .ref 2), (1, .ref x1), (2, .int x2)] [.long ((mJ m13 2 6)), .ref x1] (m13, S) (some (.int r0)) (mf, S)
            obtain ⟨r19, g19, h⟩ := b1_some h
            refine rcV 29 x1 [.long ((mJ m13 2 6))] rfl rfl rfl (hSh.kW hx1 _) (Nat.le_of_ble_eq_true rfl) rfl (e_Will_heirNamed N (by omega) hSh hx1 g19) ?_
            show RN xs L al (Ev xs L al d) 35 123 [(5, .int 1), (4, .int ((-1))), (3, .int ((mI m 2 5))), (0, .ref 2), (1, .ref x1), (2, .int x2)] [.int r19] (m13, S) (some (.int r0)) (mf, S)
            refine rsn 1 (t := (127, [(5, .int 1), (4, .int ((-1))), (3, .int ((mI m 2 5))), (0, .ref 2), (1, .ref x1), (2, .int x2)], [.int r19])) rfl ?_
            exact rsub [(0, .ref 2), (1, .ref x1), (2, .int x2), (3, .int ((mI m 2 5))), (5, .int 1)] ⟨rfl, ⟨rfl, ⟨rfl, ⟨rfl, ⟨rfl, trivial⟩⟩⟩⟩⟩ ⟨rfl, ⟨rfl, ⟨rfl, ⟨rfl, ⟨rfl, trivial⟩⟩⟩⟩⟩ (jp127 r19 h)
        · rw [if_neg c11] at h
          refine rjt (a := (140, [(5, .int 2), (4, .int ((-1))), (3, .int ((mI m 2 5))), (0, .ref 2), (1, .ref x1), (2, .int x2)], [])) (b := (101, [(5, .int 2), (4, .int ((-1))), (3, .int ((mI m 2 5))), (0, .ref 2), (1, .ref x1), (2, .int x2)], [])) rfl rfl (fun q => c11 (lgc_eq.mp q)) ?_
          refine rsn 1 (t := (141, [(5, .int 2), (4, .int ((-1))), (3, .int ((mI m 2 5))), (0, .ref 2), (1, .ref x1), (2, .int x2)], [.ref 2])) rfl ?_
          refine pgJ rfl rfl rfl (hSh.1.k 2 rfl _) ?_
          show RN xs L al (Ev xs L al d) 35 144 [(5, .int 2), (4, .int ((-1))), (3, .int ((mI m 2 5))), (0, .ref 2), (1, .ref x1), (2, .int x2)] [.long ((mJ m3 2 6))] (m3, S) (some (.int r0)) (mf, S)
          refine rsn 2 (t := (148, [(5, .int 2), (4, .int ((-1))), (3, .int ((mI m 2 5))), (0, .ref 2), (1, .ref x1), (2, .int x2)], [.int ((lg_cmp ((mJ m3 2 6)) 1852796517))])) rfl ?_
          by_cases c12 : ((mJ m3 2 6)) = 1852796517
          · rw [if_pos c12] at h
            refine rjt (a := (153, [(5, .int 2), (4, .int ((-1))), (3, .int ((mI m 2 5))), (0, .ref 2), (1, .ref x1), (2, .int x2)], [])) (b := (151, [(5, .int 2), (4, .int ((-1))), (3, .int ((mI m 2 5))), (0, .ref 2), (1, .ref x1), (2, .int x2)], [])) rfl rfl (lgc_eq.mpr c12) ?_
            exact rsub [(0, .ref 2), (1, .ref x1), (2, .int x2), (3, .int ((mI m 2 5))), (4, .int ((-1))), (5, .int 2)] ⟨rfl, ⟨rfl, ⟨rfl, ⟨rfl, ⟨rfl, ⟨rfl, trivial⟩⟩⟩⟩⟩⟩ ⟨rfl, ⟨rfl, ⟨rfl, ⟨rfl, ⟨rfl, ⟨rfl, trivial⟩⟩⟩⟩⟩⟩ (jp153 ((-1)) 2 m3 h)
          · rw [if_neg c12] at h
            refine rjf (a := (153, [(5, .int 2), (4, .int ((-1))), (3, .int ((mI m 2 5))), (0, .ref 2), (1, .ref x1), (2, .int x2)], [])) (b := (151, [(5, .int 2), (4, .int ((-1))), (3, .int ((mI m 2 5))), (0, .ref 2), (1, .ref x1), (2, .int x2)], [])) rfl rfl (fun q => c12 (lgc_eq.mp q)) ?_
            refine rsn 1 (t := (152, [(5, .int 2), (4, .int ((-1))), (3, .int ((mI m 2 5))), (0, .ref 2), (1, .ref x1), (2, .int x2)], [.int 0])) rfl ?_
            cases h
            exact rret rfl ⟨rfl, rfl, _, _, rfl, rfl, rfl, rfl⟩
    · rw [if_neg c4] at h
      refine rjf (a := (46, [(3, .int ((mI m 2 5))), (0, .ref 2), (1, .ref x1), (2, .int x2)], [])) (b := (44, [(3, .int ((mI m 2 5))), (0, .ref 2), (1, .ref x1), (2, .int x2)], [])) rfl rfl c4 ?_
      refine rsn 1 (t := (45, [(3, .int ((mI m 2 5))), (0, .ref 2), (1, .ref x1), (2, .int x2)], [.int 0])) rfl ?_
      cases h
      exact rret rfl ⟨rfl, rfl, _, _, rfl, rfl, rfl, rfl⟩
def f_Will_addDay (N : Nat) (S : St) (x0 : Nat) (x1 : Int32) (m : Mm) : Option (Mm) := b1 (f_Will_hasRoomForDay N S x0 m) fun r1 => (if r1 = 0 then some m else ck (ix ((mI m x0 1)) 6) (some (vI (vX m ((x0 + 3)) (((mI m x0 1)).toNatClampNeg) x1) x0 1 ((((mI m x0 1)) + 1)))))
set_option maxRecDepth 20000 in
set_option maxHeartbeats 4000000 in
theorem e_Will_addDay {xs : Nat → Int32} {L : Nat} {al : Bool} (N : Nat) {d : Nat} (hd : 2 ≤ d) {S : St} (hSh : ShC S) {x0 : Nat} {x1 : Int32} (hx0 : x0 ∈ wKl) {m : Mm} {mf : Mm} (h : f_Will_addDay N S x0 x1 m = some mf) : Ev xs L al d 38 [.ref x0, .int x1] (m, S) none (mf, S) := by
  obtain ⟨d, rfl⟩ : ∃ e, d = e + 1 := ⟨d - 1, by omega⟩
  refine ev_of (by decide) (Nat.le_of_ble_eq_true rfl) ?_
  rw [f_Will_addDay] at h
  show RN xs L al (Ev xs L al d) 38 0 [(0, .ref x0), (1, .int x1)] [] (m, S) none (mf, S)
  refine rsn 1 (t := (1, [(0, .ref x0), (1, .int x1)], [.ref x0])) rfl ?_
  obtain ⟨r1, g1, h⟩ := b1_some h
  refine rcV 34 x0 [] rfl rfl rfl (hSh.kW hx0 _) (Nat.le_of_ble_eq_true rfl) rfl (e_Will_hasRoomForDay N (by omega) hSh hx0 g1) ?_
  show RN xs L al (Ev xs L al d) 38 4 [(0, .ref x0), (1, .int x1)] [.int r1] (m, S) none (mf, S)
  by_cases c2 : r1 = 0
  · rw [if_pos c2] at h
    refine rjt (a := (27, [(0, .ref x0), (1, .int x1)], [])) (b := (7, [(0, .ref x0), (1, .int x1)], [])) rfl rfl c2 ?_
    cases h
    exact rret rfl ⟨rfl, rfl, rfl, rfl, rfl⟩
  · rw [if_neg c2] at h
    refine rjf (a := (27, [(0, .ref x0), (1, .int x1)], [])) (b := (7, [(0, .ref x0), (1, .int x1)], [])) rfl rfl c2 ?_
    refine rsn 1 (t := (8, [(0, .ref x0), (1, .int x1)], [.ref x0])) rfl ?_
    refine rgR rfl rfl rfl (hSh.kW hx0 _) (hSh.rWa3 hx0 _) ?_
    refine rsn 1 (t := (12, [(0, .ref x0), (1, .int x1)], [.ref x0, .ref ((x0 + 3))])) rfl ?_
    refine pgI rfl rfl rfl (hSh.kW hx0 _) ?_
    show RN xs L al (Ev xs L al d) 38 15 [(0, .ref x0), (1, .int x1)] [.int ((mI m x0 1)), .ref ((x0 + 3))] (m, S) none (mf, S)
    refine rsn 1 (t := (16, [(0, .ref x0), (1, .int x1)], [.int x1, .int ((mI m x0 1)), .ref ((x0 + 3))])) rfl ?_
    obtain ⟨c3, h⟩ := ck_some h
    refine psI rfl (hSh.kWa3 hx0 _) (hSh.lWa3 hx0 _) c3 ?_
    refine rsn 2 (t := (19, [(0, .ref x0), (1, .int x1)], [.ref x0, .ref x0])) rfl ?_
    refine pgI rfl rfl rfl (hSh.kW hx0 _) ?_
    show RN xs L al (Ev xs L al d) 38 22 [(0, .ref x0), (1, .int x1)] [.int ((mI m x0 1)), .ref x0] ((vX m ((x0 + 3)) (((mI m x0 1)).toNatClampNeg) x1), S) none (mf, S)
    refine rsn 2 (t := (24, [(0, .ref x0), (1, .int x1)], [.int ((((mI m x0 1)) + 1)), .ref x0])) rfl ?_
    refine ppI rfl rfl rfl rfl (hSh.kW hx0 _) ?_
    cases h
    exact rret rfl ⟨rfl, rfl, rfl, rfl, rfl⟩
def f_Reader_readDay_L20 (N : Nat) (S : St) (x1 : Nat) (k20 : Int32 → Mm → Option (Int32 × Mm)) : Nat → Int32 → Mm → Option (Int32 × Mm)
  | 0, _, _ => none
  | n20 + 1, x2, m => f_Reader_readDay_L20 N S x1 k20 n20 x2 m
def f_Reader_readDay (N : Nat) (S : St) (x1 : Nat) (m : Mm) : Option (Int32 × Mm) := b1 (f_Will_hasRoomForDay N S x1 m) fun r1 => (if r1 = 0 then some (0, m) else b3 (f_Reader_step N S m) fun m3 => f_Reader_readDay_L20 N S x1 (fun (z4_2 : Int32) (m4 : Mm) => some (0, m4)) N 0 (vI m3 2 7 0))
set_option maxRecDepth 20000 in
set_option maxHeartbeats 4000000 in
theorem e_Reader_readDay {xs : Nat → Int32} {L : Nat} {al : Bool} (N : Nat) {d : Nat} (hd : 5 ≤ d) {S : St} (hSh : ShC S) {x1 : Nat} (hx1 : x1 ∈ wKl) {m : Mm} {r0 : Int32} {mf : Mm} (h : f_Reader_readDay N S x1 m = some (r0, mf)) : Ev xs L al d 33 [.ref 2, .ref x1] (m, S) (some (.int r0)) (mf, S) := by
  obtain ⟨d, rfl⟩ : ∃ e, d = e + 1 := ⟨d - 1, by omega⟩
  refine ev_of (by decide) (Nat.le_of_ble_eq_true rfl) ?_
  rw [f_Reader_readDay] at h
  show RN xs L al (Ev xs L al d) 33 0 [(0, .ref 2), (1, .ref x1)] [] (m, S) (some (.int r0)) (mf, S)
  refine rsn 1 (t := (1, [(0, .ref 2), (1, .ref x1)], [.ref x1])) rfl ?_
  obtain ⟨r1, g1, h⟩ := b1_some h
  refine rcV 34 x1 [] rfl rfl rfl (hSh.kW hx1 _) (Nat.le_of_ble_eq_true rfl) rfl (e_Will_hasRoomForDay N (by omega) hSh hx1 g1) ?_
  show RN xs L al (Ev xs L al d) 33 4 [(0, .ref 2), (1, .ref x1)] [.int r1] (m, S) (some (.int r0)) (mf, S)
  by_cases c2 : r1 = 0
  · rw [if_pos c2] at h
    refine rjf (a := (9, [(0, .ref 2), (1, .ref x1)], [])) (b := (7, [(0, .ref 2), (1, .ref x1)], [])) rfl rfl (fun q => q c2) ?_
    refine rsn 1 (t := (8, [(0, .ref 2), (1, .ref x1)], [.int 0])) rfl ?_
    cases h
    exact rret rfl ⟨rfl, rfl, _, _, rfl, rfl, rfl, rfl⟩
  · rw [if_neg c2] at h
    refine rjt (a := (9, [(0, .ref 2), (1, .ref x1)], [])) (b := (7, [(0, .ref 2), (1, .ref x1)], [])) rfl rfl c2 ?_
    refine rsn 1 (t := (10, [(0, .ref 2), (1, .ref x1)], [.ref 2])) rfl ?_
    obtain ⟨m3, g3, h⟩ := b3_some h
    refine rcV 19 2 [] rfl rfl rfl (hSh.1.k 2 rfl _) (Nat.le_of_ble_eq_true rfl) rfl (e_Reader_step N (by omega) hSh g3) ?_
    show RN xs L al (Ev xs L al d) 33 13 [(0, .ref 2), (1, .ref x1)] [] (m3, S) (some (.int r0)) (mf, S)
    refine rsn 2 (t := (15, [(0, .ref 2), (1, .ref x1)], [.int 0, .ref 2])) rfl ?_
    refine ppI rfl rfl rfl rfl (hSh.1.k 2 rfl _) ?_
    refine rsn 2 (t := (20, [(2, .int 0), (0, .ref 2), (1, .ref x1)], [])) rfl ?_
    have ex20 : ∀ (z4_2 : Int32) (m4 : Mm), (some (0, m4)) = some (r0, mf) → RN xs L al (Ev xs L al d) 33 91 [] [] (m4, S) (some (.int r0)) (mf, S) := by
      intro z4_2 m4 h
      try dsimp only at h
      refine rsn 1 (t := (92, [], [.int 0])) rfl ?_
      cases h
      exact rret rfl ⟨rfl, rfl, _, _, rfl, rfl, rfl, rfl⟩
    have lp20 : ∀ (n : Nat) (y5_2 : Int32) (m5 : Mm), (f_Reader_readDay_L20 N S x1 (fun (z4_2 : Int32) (m4 : Mm) => some (0, m4)) n y5_2 m5) = some (r0, mf) → RN xs L al (Ev xs L al d) 33 20 [(0, .ref 2), (1, .ref x1), (2, .int y5_2)] [] (m5, S) (some (.int r0)) (mf, S) := by
      intro n
      induction n with
      | zero => intro y5_2 m5 h; exact absurd h (by simp [f_Reader_readDay_L20])
      | succ n20 ih20 =>
        intro y5_2 m5 h
        try dsimp only at h
        rw [f_Reader_readDay_L20] at h
        try dsimp only at h
        exact rsub [(0, .ref 2), (1, .ref x1), (2, .int y5_2)] ⟨rfl, ⟨rfl, ⟨rfl, trivial⟩⟩⟩ ⟨rfl, ⟨rfl, ⟨rfl, trivial⟩⟩⟩ (ih20 y5_2 m5 h)
    exact rsub [(0, .ref 2), (1, .ref x1), (2, .int 0)] ⟨rfl, ⟨rfl, ⟨rfl, trivial⟩⟩⟩ ⟨rfl, ⟨rfl, ⟨rfl, trivial⟩⟩⟩ (lp20 N 0 (vI m3 2 7 0) h)
def f_Reader_passSemicolon (N : Nat) (S : St) (m : Mm) : Option (Int32 × Mm) := b3 (f_Reader_step N S m) fun m1 => (if ((mI m1 2 3)) = 4 then b3 (f_Reader_step N S m1) fun m3 => some (1, m3) else some (0, m1))
set_option maxRecDepth 20000 in
set_option maxHeartbeats 4000000 in
theorem e_Reader_passSemicolon {xs : Nat → Int32} {L : Nat} {al : Bool} (N : Nat) {d : Nat} (hd : 4 ≤ d) {S : St} (hSh : ShC S) {m : Mm} {r0 : Int32} {mf : Mm} (h : f_Reader_passSemicolon N S m = some (r0, mf)) : Ev xs L al d 40 [.ref 2] (m, S) (some (.int r0)) (mf, S) := by
  obtain ⟨d, rfl⟩ : ∃ e, d = e + 1 := ⟨d - 1, by omega⟩
  refine ev_of (by decide) (Nat.le_of_ble_eq_true rfl) ?_
  rw [f_Reader_passSemicolon] at h
  show RN xs L al (Ev xs L al d) 40 0 [(0, .ref 2)] [] (m, S) (some (.int r0)) (mf, S)
  refine rsn 1 (t := (1, [(0, .ref 2)], [.ref 2])) rfl ?_
  obtain ⟨m1, g1, h⟩ := b3_some h
  refine rcV 19 2 [] rfl rfl rfl (hSh.1.k 2 rfl _) (Nat.le_of_ble_eq_true rfl) rfl (e_Reader_step N (by omega) hSh g1) ?_
  show RN xs L al (Ev xs L al d) 40 4 [(0, .ref 2)] [] (m1, S) (some (.int r0)) (mf, S)
  refine rsn 1 (t := (5, [(0, .ref 2)], [.ref 2])) rfl ?_
  refine pgI rfl rfl rfl (hSh.1.k 2 rfl _) ?_
  show RN xs L al (Ev xs L al d) 40 8 [(0, .ref 2)] [.int ((mI m1 2 3))] (m1, S) (some (.int r0)) (mf, S)
  refine rsn 1 (t := (9, [(0, .ref 2)], [.int 4, .int ((mI m1 2 3))])) rfl ?_
  by_cases c2 : ((mI m1 2 3)) = 4
  · rw [if_pos c2] at h
    refine rjt (a := (14, [(0, .ref 2)], [])) (b := (12, [(0, .ref 2)], [])) rfl rfl c2 ?_
    refine rsn 1 (t := (15, [(0, .ref 2)], [.ref 2])) rfl ?_
    obtain ⟨m3, g3, h⟩ := b3_some h
    refine rcV 19 2 [] rfl rfl rfl (hSh.1.k 2 rfl _) (Nat.le_of_ble_eq_true rfl) rfl (e_Reader_step N (by omega) hSh g3) ?_
    show RN xs L al (Ev xs L al d) 40 18 [(0, .ref 2)] [] (m3, S) (some (.int r0)) (mf, S)
    refine rsn 1 (t := (19, [(0, .ref 2)], [.int 1])) rfl ?_
    cases h
    exact rret rfl ⟨rfl, rfl, _, _, rfl, rfl, rfl, rfl⟩
  · rw [if_neg c2] at h
    refine rjf (a := (14, [(0, .ref 2)], [])) (b := (12, [(0, .ref 2)], [])) rfl rfl c2 ?_
    refine rsn 1 (t := (13, [(0, .ref 2)], [.int 0])) rfl ?_
    cases h
    exact rret rfl ⟨rfl, rfl, _, _, rfl, rfl, rfl, rfl⟩
def f_Reader_readHold (N : Nat) (S : St) (x1 : Nat) (m : Mm) : Option (Int32 × Mm) := (if ((mI m x1 4)) = 0 then b3 (f_Reader_step N S m) fun m2 => b1 (f_Reader_isNumber N S 0 2 m2) fun r3 => (if r3 = 0 then some (0, m2) else b2 (f_Reader_passSemicolon N S (vI (vI m2 x1 2 ((mI m2 2 5))) x1 4 1)) fun r5 m5 => ck (r5 = 0 ∨ r5 = 1) (some (r5, m5))) else some (0, m))
set_option maxRecDepth 20000 in
set_option maxHeartbeats 4000000 in
theorem e_Reader_readHold {xs : Nat → Int32} {L : Nat} {al : Bool} (N : Nat) {d : Nat} (hd : 5 ≤ d) {S : St} (hSh : ShC S) {x1 : Nat} (hx1 : x1 ∈ wKl) {m : Mm} {r0 : Int32} {mf : Mm} (h : f_Reader_readHold N S x1 m = some (r0, mf)) : Ev xs L al d 39 [.ref 2, .ref x1] (m, S) (some (.int r0)) (mf, S) := by
  obtain ⟨d, rfl⟩ : ∃ e, d = e + 1 := ⟨d - 1, by omega⟩
  refine ev_of (by decide) (Nat.le_of_ble_eq_true rfl) ?_
  rw [f_Reader_readHold] at h
  show RN xs L al (Ev xs L al d) 39 0 [(0, .ref 2), (1, .ref x1)] [] (m, S) (some (.int r0)) (mf, S)
  refine rsn 1 (t := (1, [(0, .ref 2), (1, .ref x1)], [.ref x1])) rfl ?_
  refine pgI rfl rfl rfl (hSh.kW hx1 _) ?_
  show RN xs L al (Ev xs L al d) 39 4 [(0, .ref 2), (1, .ref x1)] [.int ((mI m x1 4))] (m, S) (some (.int r0)) (mf, S)
  by_cases c1 : ((mI m x1 4)) = 0
  · rw [if_pos c1] at h
    refine rjt (a := (9, [(0, .ref 2), (1, .ref x1)], [])) (b := (7, [(0, .ref 2), (1, .ref x1)], [])) rfl rfl c1 ?_
    refine rsn 1 (t := (10, [(0, .ref 2), (1, .ref x1)], [.ref 2])) rfl ?_
    obtain ⟨m2, g2, h⟩ := b3_some h
    refine rcV 19 2 [] rfl rfl rfl (hSh.1.k 2 rfl _) (Nat.le_of_ble_eq_true rfl) rfl (e_Reader_step N (by omega) hSh g2) ?_
    show RN xs L al (Ev xs L al d) 39 13 [(0, .ref 2), (1, .ref x1)] [] (m2, S) (some (.int r0)) (mf, S)
    refine rsn 3 (t := (16, [(0, .ref 2), (1, .ref x1)], [.int 2, .int 0, .ref 2])) rfl ?_
    obtain ⟨r3, g3, h⟩ := b1_some h
    refine rcV 30 2 [.int 0, .int 2] rfl rfl rfl (hSh.1.k 2 rfl _) (Nat.le_of_ble_eq_true rfl) rfl (e_Reader_isNumber N (by omega) hSh g3) ?_
    show RN xs L al (Ev xs L al d) 39 19 [(0, .ref 2), (1, .ref x1)] [.int r3] (m2, S) (some (.int r0)) (mf, S)
    by_cases c4 : r3 = 0
    · rw [if_pos c4] at h
      refine rjf (a := (24, [(0, .ref 2), (1, .ref x1)], [])) (b := (22, [(0, .ref 2), (1, .ref x1)], [])) rfl rfl (fun q => q c4) ?_
      refine rsn 1 (t := (23, [(0, .ref 2), (1, .ref x1)], [.int 0])) rfl ?_
      cases h
      exact rret rfl ⟨rfl, rfl, _, _, rfl, rfl, rfl, rfl⟩
    · rw [if_neg c4] at h
      refine rjt (a := (24, [(0, .ref 2), (1, .ref x1)], [])) (b := (22, [(0, .ref 2), (1, .ref x1)], [])) rfl rfl c4 ?_
      refine rsn 2 (t := (26, [(0, .ref 2), (1, .ref x1)], [.ref 2, .ref x1])) rfl ?_
      refine pgI rfl rfl rfl (hSh.1.k 2 rfl _) ?_
      show RN xs L al (Ev xs L al d) 39 29 [(0, .ref 2), (1, .ref x1)] [.int ((mI m2 2 5)), .ref x1] (m2, S) (some (.int r0)) (mf, S)
      refine ppI rfl rfl rfl rfl (hSh.kW hx1 _) ?_
      refine rsn 2 (t := (34, [(0, .ref 2), (1, .ref x1)], [.int 1, .ref x1])) rfl ?_
      refine ppZ rfl rfl rfl rfl (hSh.kW hx1 _) (Or.inr rfl) ?_
      refine rsn 1 (t := (38, [(0, .ref 2), (1, .ref x1)], [.ref 2])) rfl ?_
      obtain ⟨r5, m5, g5, h⟩ := b2_some h
      refine rcV 40 2 [] rfl rfl rfl (hSh.1.k 2 rfl _) (Nat.le_of_ble_eq_true rfl) rfl (e_Reader_passSemicolon N (by omega) hSh g5) ?_
      show RN xs L al (Ev xs L al d) 39 41 [(0, .ref 2), (1, .ref x1)] [.int r5] (m5, S) (some (.int r0)) (mf, S)
      obtain ⟨c6, h⟩ := ck_some h
      cases h
      exact rret rfl ⟨rfl, rfl, _, _, rfl, rfl, rfl, nz_of c6⟩
  · rw [if_neg c1] at h
    refine rjf (a := (9, [(0, .ref 2), (1, .ref x1)], [])) (b := (7, [(0, .ref 2), (1, .ref x1)], [])) rfl rfl c1 ?_
    refine rsn 1 (t := (8, [(0, .ref 2), (1, .ref x1)], [.int 0])) rfl ?_
    cases h
    exact rret rfl ⟨rfl, rfl, _, _, rfl, rfl, rfl, rfl⟩
def f_Reader_readBack (N : Nat) (S : St) (x1 : Nat) (m : Mm) : Option (Int32 × Mm) := (if ((mI m x1 5)) = 0 then b3 (f_Reader_step N S m) fun m2 => b1 (f_Reader_isNumber N S 0 1 m2) fun r3 => (if r3 = 0 then some (0, m2) else b2 (f_Reader_passSemicolon N S (vI (vI m2 x1 3 ((mI m2 2 5))) x1 5 1)) fun r5 m5 => ck (r5 = 0 ∨ r5 = 1) (some (r5, m5))) else some (0, m))
set_option maxRecDepth 20000 in
set_option maxHeartbeats 4000000 in
theorem e_Reader_readBack {xs : Nat → Int32} {L : Nat} {al : Bool} (N : Nat) {d : Nat} (hd : 5 ≤ d) {S : St} (hSh : ShC S) {x1 : Nat} (hx1 : x1 ∈ wKl) {m : Mm} {r0 : Int32} {mf : Mm} (h : f_Reader_readBack N S x1 m = some (r0, mf)) : Ev xs L al d 41 [.ref 2, .ref x1] (m, S) (some (.int r0)) (mf, S) := by
  obtain ⟨d, rfl⟩ : ∃ e, d = e + 1 := ⟨d - 1, by omega⟩
  refine ev_of (by decide) (Nat.le_of_ble_eq_true rfl) ?_
  rw [f_Reader_readBack] at h
  show RN xs L al (Ev xs L al d) 41 0 [(0, .ref 2), (1, .ref x1)] [] (m, S) (some (.int r0)) (mf, S)
  refine rsn 1 (t := (1, [(0, .ref 2), (1, .ref x1)], [.ref x1])) rfl ?_
  refine pgI rfl rfl rfl (hSh.kW hx1 _) ?_
  show RN xs L al (Ev xs L al d) 41 4 [(0, .ref 2), (1, .ref x1)] [.int ((mI m x1 5))] (m, S) (some (.int r0)) (mf, S)
  by_cases c1 : ((mI m x1 5)) = 0
  · rw [if_pos c1] at h
    refine rjt (a := (9, [(0, .ref 2), (1, .ref x1)], [])) (b := (7, [(0, .ref 2), (1, .ref x1)], [])) rfl rfl c1 ?_
    refine rsn 1 (t := (10, [(0, .ref 2), (1, .ref x1)], [.ref 2])) rfl ?_
    obtain ⟨m2, g2, h⟩ := b3_some h
    refine rcV 19 2 [] rfl rfl rfl (hSh.1.k 2 rfl _) (Nat.le_of_ble_eq_true rfl) rfl (e_Reader_step N (by omega) hSh g2) ?_
    show RN xs L al (Ev xs L al d) 41 13 [(0, .ref 2), (1, .ref x1)] [] (m2, S) (some (.int r0)) (mf, S)
    refine rsn 3 (t := (16, [(0, .ref 2), (1, .ref x1)], [.int 1, .int 0, .ref 2])) rfl ?_
    obtain ⟨r3, g3, h⟩ := b1_some h
    refine rcV 30 2 [.int 0, .int 1] rfl rfl rfl (hSh.1.k 2 rfl _) (Nat.le_of_ble_eq_true rfl) rfl (e_Reader_isNumber N (by omega) hSh g3) ?_
    show RN xs L al (Ev xs L al d) 41 19 [(0, .ref 2), (1, .ref x1)] [.int r3] (m2, S) (some (.int r0)) (mf, S)
    by_cases c4 : r3 = 0
    · rw [if_pos c4] at h
      refine rjf (a := (24, [(0, .ref 2), (1, .ref x1)], [])) (b := (22, [(0, .ref 2), (1, .ref x1)], [])) rfl rfl (fun q => q c4) ?_
      refine rsn 1 (t := (23, [(0, .ref 2), (1, .ref x1)], [.int 0])) rfl ?_
      cases h
      exact rret rfl ⟨rfl, rfl, _, _, rfl, rfl, rfl, rfl⟩
    · rw [if_neg c4] at h
      refine rjt (a := (24, [(0, .ref 2), (1, .ref x1)], [])) (b := (22, [(0, .ref 2), (1, .ref x1)], [])) rfl rfl c4 ?_
      refine rsn 2 (t := (26, [(0, .ref 2), (1, .ref x1)], [.ref 2, .ref x1])) rfl ?_
      refine pgI rfl rfl rfl (hSh.1.k 2 rfl _) ?_
      show RN xs L al (Ev xs L al d) 41 29 [(0, .ref 2), (1, .ref x1)] [.int ((mI m2 2 5)), .ref x1] (m2, S) (some (.int r0)) (mf, S)
      refine ppI rfl rfl rfl rfl (hSh.kW hx1 _) ?_
      refine rsn 2 (t := (34, [(0, .ref 2), (1, .ref x1)], [.int 1, .ref x1])) rfl ?_
      refine ppZ rfl rfl rfl rfl (hSh.kW hx1 _) (Or.inr rfl) ?_
      refine rsn 1 (t := (38, [(0, .ref 2), (1, .ref x1)], [.ref 2])) rfl ?_
      obtain ⟨r5, m5, g5, h⟩ := b2_some h
      refine rcV 40 2 [] rfl rfl rfl (hSh.1.k 2 rfl _) (Nat.le_of_ble_eq_true rfl) rfl (e_Reader_passSemicolon N (by omega) hSh g5) ?_
      show RN xs L al (Ev xs L al d) 41 41 [(0, .ref 2), (1, .ref x1)] [.int r5] (m5, S) (some (.int r0)) (mf, S)
      obtain ⟨c6, h⟩ := ck_some h
      cases h
      exact rret rfl ⟨rfl, rfl, _, _, rfl, rfl, rfl, nz_of c6⟩
  · rw [if_neg c1] at h
    refine rjf (a := (9, [(0, .ref 2), (1, .ref x1)], [])) (b := (7, [(0, .ref 2), (1, .ref x1)], [])) rfl rfl c1 ?_
    refine rsn 1 (t := (8, [(0, .ref 2), (1, .ref x1)], [.int 0])) rfl ?_
    cases h
    exact rret rfl ⟨rfl, rfl, _, _, rfl, rfl, rfl, rfl⟩
def f_Reader_readPart (N : Nat) (S : St) (x1 : Nat) (m : Mm) : Option (Int32 × Mm) := (if ((mI m 2 3)) = 1 then (jn (fun (_ : Unit) => (if ((mJ m 2 6)) = 1818326117 then b2 (f_Reader_readHeir N S x1 1 m) fun r5 m5 => ck (r5 = 0 ∨ r5 = 1) (some (r5, m5)) else b2 (f_Reader_readHeir N S x1 0 m) fun r3 m3 => ck (r3 = 0 ∨ r3 = 1) (some (r3, m3)))) (fun j32 => if ((mJ m 2 6)) = 1751476594 then j32 () else (if ((mJ m 2 6)) = 1818326117 then j32 () else (if ((mJ m 2 6)) = 6578553 then b2 (f_Reader_readDay N S x1 m) fun r16 m16 => ck (r16 = 0 ∨ r16 = 1) (some (r16, m16)) else (if ((mJ m 2 6)) = 1752132708 then b2 (f_Reader_readHold N S x1 m) fun r14 m14 => ck (r14 = 0 ∨ r14 = 1) (some (r14, m14)) else (if ((mJ m 2 6)) = 1650549611 then b2 (f_Reader_readBack N S x1 m) fun r12 m12 => (if r12 = 0 then some (0, m12) else some (1, m12)) else some (0, m))))))) else some (0, m))
set_option maxRecDepth 20000 in
set_option maxHeartbeats 4000000 in
theorem e_Reader_readPart {xs : Nat → Int32} {L : Nat} {al : Bool} (N : Nat) {d : Nat} (hd : 6 ≤ d) {S : St} (hSh : ShC S) {x1 : Nat} (hx1 : x1 ∈ wKl) {m : Mm} {r0 : Int32} {mf : Mm} (h : f_Reader_readPart N S x1 m = some (r0, mf)) : Ev xs L al d 25 [.ref 2, .ref x1] (m, S) (some (.int r0)) (mf, S) := by
  obtain ⟨d, rfl⟩ : ∃ e, d = e + 1 := ⟨d - 1, by omega⟩
  refine ev_of (by decide) (Nat.le_of_ble_eq_true rfl) ?_
  rw [f_Reader_readPart] at h
  show RN xs L al (Ev xs L al d) 25 0 [(0, .ref 2), (1, .ref x1)] [] (m, S) (some (.int r0)) (mf, S)
  refine rsn 1 (t := (1, [(0, .ref 2), (1, .ref x1)], [.ref 2])) rfl ?_
  refine pgI rfl rfl rfl (hSh.1.k 2 rfl _) ?_
  show RN xs L al (Ev xs L al d) 25 4 [(0, .ref 2), (1, .ref x1)] [.int ((mI m 2 3))] (m, S) (some (.int r0)) (mf, S)
  refine rsn 1 (t := (5, [(0, .ref 2), (1, .ref x1)], [.int 1, .int ((mI m 2 3))])) rfl ?_
  by_cases c1 : ((mI m 2 3)) = 1
  · rw [if_pos c1] at h
    refine rjt (a := (10, [(0, .ref 2), (1, .ref x1)], [])) (b := (8, [(0, .ref 2), (1, .ref x1)], [])) rfl rfl c1 ?_
    refine rsn 1 (t := (11, [(0, .ref 2), (1, .ref x1)], [.ref 2])) rfl ?_
    refine pgJ rfl rfl rfl (hSh.1.k 2 rfl _) ?_
    show RN xs L al (Ev xs L al d) 25 14 [(0, .ref 2), (1, .ref x1)] [.long ((mJ m 2 6))] (m, S) (some (.int r0)) (mf, S)
    refine rsn 2 (t := (18, [(0, .ref 2), (1, .ref x1)], [.int ((lg_cmp ((mJ m 2 6)) 1751476594))])) rfl ?_
    have jp32 : ∀ (_ : Unit), ((if ((mJ m 2 6)) = 1818326117 then b2 (f_Reader_readHeir N S x1 1 m) fun r5 m5 => ck (r5 = 0 ∨ r5 = 1) (some (r5, m5)) else b2 (f_Reader_readHeir N S x1 0 m) fun r3 m3 => ck (r3 = 0 ∨ r3 = 1) (some (r3, m3)))) = some (r0, mf) → RN xs L al (Ev xs L al d) 25 32 [(0, .ref 2), (1, .ref x1)] [] (m, S) (some (.int r0)) (mf, S) := by
      intro _ h
      try dsimp only at h
      refine rsn 3 (t := (35, [(0, .ref 2), (1, .ref x1)], [.ref 2, .ref x1, .ref 2])) rfl ?_
      refine pgJ rfl rfl rfl (hSh.1.k 2 rfl _) ?_
      show RN xs L al (Ev xs L al d) 25 38 [(0, .ref 2), (1, .ref x1)] [.long ((mJ m 2 6)), .ref x1, .ref 2] (m, S) (some (.int r0)) (mf, S)
      refine rsn 2 (t := (42, [(0, .ref 2), (1, .ref x1)], [.int ((lg_cmp ((mJ m 2 6)) 1818326117)), .ref x1, .ref 2])) rfl ?_
      by_cases c2 : ((mJ m 2 6)) = 1818326117
      · rw [if_pos c2] at h
        refine rjf (a := (49, [(0, .ref 2), (1, .ref x1)], [.ref x1, .ref 2])) (b := (45, [(0, .ref 2), (1, .ref x1)], [.ref x1, .ref 2])) rfl rfl (fun q => q (lgc_eq.mpr c2)) ?_
        refine rsn 2 (t := (50, [(0, .ref 2), (1, .ref x1)], [.int 1, .ref x1, .ref 2])) rfl ?_
        obtain ⟨r5, m5, g5, h⟩ := b2_some h
        refine rcV 26 2 [.ref x1, .int 1] rfl rfl rfl (hSh.1.k 2 rfl _) (Nat.le_of_ble_eq_true rfl) rfl (e_Reader_readHeir N (by omega) hSh hx1 g5) ?_
        show RN xs L al (Ev xs L al d) 25 53 [(0, .ref 2), (1, .ref x1)] [.int r5] (m5, S) (some (.int r0)) (mf, S)
        obtain ⟨c6, h⟩ := ck_some h
        cases h
        exact rret rfl ⟨rfl, rfl, _, _, rfl, rfl, rfl, nz_of c6⟩
      · rw [if_neg c2] at h
        refine rjt (a := (49, [(0, .ref 2), (1, .ref x1)], [.ref x1, .ref 2])) (b := (45, [(0, .ref 2), (1, .ref x1)], [.ref x1, .ref 2])) rfl rfl (fun q => c2 (lgc_eq.mp q)) ?_
        refine rsn 1 (t := (50, [(0, .ref 2), (1, .ref x1)], [.int 0, .ref x1, .ref 2])) rfl ?_
        obtain ⟨r3, m3, g3, h⟩ := b2_some h
        refine rcV 26 2 [.ref x1, .int 0] rfl rfl rfl (hSh.1.k 2 rfl _) (Nat.le_of_ble_eq_true rfl) rfl (e_Reader_readHeir N (by omega) hSh hx1 g3) ?_
        show RN xs L al (Ev xs L al d) 25 53 [(0, .ref 2), (1, .ref x1)] [.int r3] (m3, S) (some (.int r0)) (mf, S)
        obtain ⟨c4, h⟩ := ck_some h
        cases h
        exact rret rfl ⟨rfl, rfl, _, _, rfl, rfl, rfl, nz_of c4⟩
    rw [jn] at h
    try dsimp only at h
    by_cases c7 : ((mJ m 2 6)) = 1751476594
    · rw [if_pos c7] at h
      refine rjt (a := (32, [(0, .ref 2), (1, .ref x1)], [])) (b := (21, [(0, .ref 2), (1, .ref x1)], [])) rfl rfl (lgc_eq.mpr c7) ?_
      exact rsub [(0, .ref 2), (1, .ref x1)] ⟨rfl, ⟨rfl, trivial⟩⟩ ⟨rfl, ⟨rfl, trivial⟩⟩ (jp32 () h)
    · rw [if_neg c7] at h
      refine rjf (a := (32, [(0, .ref 2), (1, .ref x1)], [])) (b := (21, [(0, .ref 2), (1, .ref x1)], [])) rfl rfl (fun q => c7 (lgc_eq.mp q)) ?_
      refine rsn 1 (t := (22, [(0, .ref 2), (1, .ref x1)], [.ref 2])) rfl ?_
      refine pgJ rfl rfl rfl (hSh.1.k 2 rfl _) ?_
      show RN xs L al (Ev xs L al d) 25 25 [(0, .ref 2), (1, .ref x1)] [.long ((mJ m 2 6))] (m, S) (some (.int r0)) (mf, S)
      refine rsn 2 (t := (29, [(0, .ref 2), (1, .ref x1)], [.int ((lg_cmp ((mJ m 2 6)) 1818326117))])) rfl ?_
      by_cases c8 : ((mJ m 2 6)) = 1818326117
      · rw [if_pos c8] at h
        refine rjf (a := (54, [(0, .ref 2), (1, .ref x1)], [])) (b := (32, [(0, .ref 2), (1, .ref x1)], [])) rfl rfl (fun q => q (lgc_eq.mpr c8)) ?_
        exact rsub [(0, .ref 2), (1, .ref x1)] ⟨rfl, ⟨rfl, trivial⟩⟩ ⟨rfl, ⟨rfl, trivial⟩⟩ (jp32 () h)
      · rw [if_neg c8] at h
        refine rjt (a := (54, [(0, .ref 2), (1, .ref x1)], [])) (b := (32, [(0, .ref 2), (1, .ref x1)], [])) rfl rfl (fun q => c8 (lgc_eq.mp q)) ?_
        refine rsn 1 (t := (55, [(0, .ref 2), (1, .ref x1)], [.ref 2])) rfl ?_
        refine pgJ rfl rfl rfl (hSh.1.k 2 rfl _) ?_
        show RN xs L al (Ev xs L al d) 25 58 [(0, .ref 2), (1, .ref x1)] [.long ((mJ m 2 6))] (m, S) (some (.int r0)) (mf, S)
        refine rsn 2 (t := (62, [(0, .ref 2), (1, .ref x1)], [.int ((lg_cmp ((mJ m 2 6)) 6578553))])) rfl ?_
        by_cases c9 : ((mJ m 2 6)) = 6578553
        · rw [if_pos c9] at h
          refine rjf (a := (71, [(0, .ref 2), (1, .ref x1)], [])) (b := (65, [(0, .ref 2), (1, .ref x1)], [])) rfl rfl (fun q => q (lgc_eq.mpr c9)) ?_
          refine rsn 2 (t := (67, [(0, .ref 2), (1, .ref x1)], [.ref x1, .ref 2])) rfl ?_
          obtain ⟨r16, m16, g16, h⟩ := b2_some h
          refine rcV 33 2 [.ref x1] rfl rfl rfl (hSh.1.k 2 rfl _) (Nat.le_of_ble_eq_true rfl) rfl (e_Reader_readDay N (by omega) hSh hx1 g16) ?_
          show RN xs L al (Ev xs L al d) 25 70 [(0, .ref 2), (1, .ref x1)] [.int r16] (m16, S) (some (.int r0)) (mf, S)
          obtain ⟨c17, h⟩ := ck_some h
          cases h
          exact rret rfl ⟨rfl, rfl, _, _, rfl, rfl, rfl, nz_of c17⟩
        · rw [if_neg c9] at h
          refine rjt (a := (71, [(0, .ref 2), (1, .ref x1)], [])) (b := (65, [(0, .ref 2), (1, .ref x1)], [])) rfl rfl (fun q => c9 (lgc_eq.mp q)) ?_
          refine rsn 1 (t := (72, [(0, .ref 2), (1, .ref x1)], [.ref 2])) rfl ?_
          refine pgJ rfl rfl rfl (hSh.1.k 2 rfl _) ?_
          show RN xs L al (Ev xs L al d) 25 75 [(0, .ref 2), (1, .ref x1)] [.long ((mJ m 2 6))] (m, S) (some (.int r0)) (mf, S)
          refine rsn 2 (t := (79, [(0, .ref 2), (1, .ref x1)], [.int ((lg_cmp ((mJ m 2 6)) 1752132708))])) rfl ?_
          by_cases c10 : ((mJ m 2 6)) = 1752132708
          · rw [if_pos c10] at h
            refine rjf (a := (88, [(0, .ref 2), (1, .ref x1)], [])) (b := (82, [(0, .ref 2), (1, .ref x1)], [])) rfl rfl (fun q => q (lgc_eq.mpr c10)) ?_
            refine rsn 2 (t := (84, [(0, .ref 2), (1, .ref x1)], [.ref x1, .ref 2])) rfl ?_
            obtain ⟨r14, m14, g14, h⟩ := b2_some h
            refine rcV 39 2 [.ref x1] rfl rfl rfl (hSh.1.k 2 rfl _) (Nat.le_of_ble_eq_true rfl) rfl (e_Reader_readHold N (by omega) hSh hx1 g14) ?_
            show RN xs L al (Ev xs L al d) 25 87 [(0, .ref 2), (1, .ref x1)] [.int r14] (m14, S) (some (.int r0)) (mf, S)
            obtain ⟨c15, h⟩ := ck_some h
            cases h
            exact rret rfl ⟨rfl, rfl, _, _, rfl, rfl, rfl, nz_of c15⟩
          · rw [if_neg c10] at h
            refine rjt (a := (88, [(0, .ref 2), (1, .ref x1)], [])) (b := (82, [(0, .ref 2), (1, .ref x1)], [])) rfl rfl (fun q => c10 (lgc_eq.mp q)) ?_
            refine rsn 1 (t := (89, [(0, .ref 2), (1, .ref x1)], [.ref 2])) rfl ?_
            refine pgJ rfl rfl rfl (hSh.1.k 2 rfl _) ?_
            show RN xs L al (Ev xs L al d) 25 92 [(0, .ref 2), (1, .ref x1)] [.long ((mJ m 2 6))] (m, S) (some (.int r0)) (mf, S)
            refine rsn 2 (t := (96, [(0, .ref 2), (1, .ref x1)], [.int ((lg_cmp ((mJ m 2 6)) 1650549611))])) rfl ?_
            by_cases c11 : ((mJ m 2 6)) = 1650549611
            · rw [if_pos c11] at h
              refine rjf (a := (111, [(0, .ref 2), (1, .ref x1)], [])) (b := (99, [(0, .ref 2), (1, .ref x1)], [])) rfl rfl (fun q => q (lgc_eq.mpr c11)) ?_
              refine rsn 2 (t := (101, [(0, .ref 2), (1, .ref x1)], [.ref x1, .ref 2])) rfl ?_
              obtain ⟨r12, m12, g12, h⟩ := b2_some h
              refine rcV 41 2 [.ref x1] rfl rfl rfl (hSh.1.k 2 rfl _) (Nat.le_of_ble_eq_true rfl) rfl (e_Reader_readBack N (by omega) hSh hx1 g12) ?_
              show RN xs L al (Ev xs L al d) 25 104 [(0, .ref 2), (1, .ref x1)] [.int r12] (m12, S) (some (.int r0)) (mf, S)
              by_cases c13 : r12 = 0
              · rw [if_pos c13] at h
                refine rjt (a := (111, [(0, .ref 2), (1, .ref x1)], [])) (b := (107, [(0, .ref 2), (1, .ref x1)], [])) rfl rfl c13 ?_
                refine rsn 1 (t := (112, [(0, .ref 2), (1, .ref x1)], [.int 0])) rfl ?_
                cases h
                exact rret rfl ⟨rfl, rfl, _, _, rfl, rfl, rfl, rfl⟩
              · rw [if_neg c13] at h
                refine rjf (a := (111, [(0, .ref 2), (1, .ref x1)], [])) (b := (107, [(0, .ref 2), (1, .ref x1)], [])) rfl rfl c13 ?_
                refine rsn 2 (t := (112, [(0, .ref 2), (1, .ref x1)], [.int 1])) rfl ?_
                cases h
                exact rret rfl ⟨rfl, rfl, _, _, rfl, rfl, rfl, rfl⟩
            · rw [if_neg c11] at h
              refine rjt (a := (111, [(0, .ref 2), (1, .ref x1)], [])) (b := (99, [(0, .ref 2), (1, .ref x1)], [])) rfl rfl (fun q => c11 (lgc_eq.mp q)) ?_
              refine rsn 1 (t := (112, [(0, .ref 2), (1, .ref x1)], [.int 0])) rfl ?_
              cases h
              exact rret rfl ⟨rfl, rfl, _, _, rfl, rfl, rfl, rfl⟩
  · rw [if_neg c1] at h
    refine rjf (a := (10, [(0, .ref 2), (1, .ref x1)], [])) (b := (8, [(0, .ref 2), (1, .ref x1)], [])) rfl rfl c1 ?_
    refine rsn 1 (t := (9, [(0, .ref 2), (1, .ref x1)], [.int 0])) rfl ?_
    cases h
    exact rret rfl ⟨rfl, rfl, _, _, rfl, rfl, rfl, rfl⟩
def f_Reader_read_L28 (N : Nat) (S : St) (x2 : Nat) (k28 : Int32 → Mm → Option (Int32 × Mm)) : Nat → Int32 → Mm → Option (Int32 × Mm)
  | 0, _, _ => none
  | n28 + 1, x3, m => f_Reader_read_L28 N S x2 k28 n28 x3 m
def f_Reader_read (N : Nat) (S : St) (x1 : Int32) (x2 : Nat) (m : Mm) : Option (Int32 × Mm) := b3 (f_Will_clear N S x2 (vI (vI m 2 1 ((if ((Int32.ofNat 400)) < x1 then ((Int32.ofNat 400)) else x1))) 2 2 0)) fun m1 => b3 (f_Reader_step N S m1) fun m2 => f_Reader_read_L28 N S x2 (fun (z3_3 : Int32) (m3 : Mm) => some ((mI m3 2 4), m3)) N 0 m2
set_option maxRecDepth 20000 in
set_option maxHeartbeats 4000000 in
theorem e_Reader_read {xs : Nat → Int32} {L : Nat} {al : Bool} (N : Nat) {d : Nat} (hd : 7 ≤ d) {S : St} (hSh : ShC S) {x1 : Int32} {x2 : Nat} (hx2 : x2 ∈ wKl) {m : Mm} {r0 : Int32} {mf : Mm} (h : f_Reader_read N S x1 x2 m = some (r0, mf)) : Ev xs L al d 17 [.ref 2, .int x1, .ref x2] (m, S) (some (.int r0)) (mf, S) := by
  obtain ⟨d, rfl⟩ : ∃ e, d = e + 1 := ⟨d - 1, by omega⟩
  refine ev_of (by decide) (Nat.le_of_ble_eq_true rfl) ?_
  rw [f_Reader_read] at h
  show RN xs L al (Ev xs L al d) 17 0 [(0, .ref 2), (1, .int x1), (2, .ref x2)] [] (m, S) (some (.int r0)) (mf, S)
  refine rsn 3 (t := (3, [(0, .ref 2), (1, .int x1), (2, .ref x2)], [.ref 2, .int x1, .ref 2])) rfl ?_
  refine rgR rfl rfl rfl (hSh.1.k 2 rfl _) (hSh.1.r 93 rfl _) ?_
  refine rxL rfl (hSh.1.k 1 rfl _) (by decide) (hSh.1.l 0 rfl _) ?_
  show RN xs L al (Ev xs L al d) 17 7 [(0, .ref 2), (1, .int x1), (2, .ref x2)] [.int ((Int32.ofNat 400)), .int x1, .ref 2] (m, S) (some (.int r0)) (mf, S)
  refine rm (st1 := [.int ((if ((Int32.ofNat 400)) < x1 then ((Int32.ofNat 400)) else x1)), .ref 2]) rfl ⟨rfl, rfl, 2, [.ref 2], rfl, Nat.le_of_ble_eq_true rfl, Or.inr (Or.inr (Or.inl ⟨rfl, _, _, rfl, rfl⟩))⟩ ?_
  refine ppI rfl rfl rfl rfl (hSh.1.k 2 rfl _) ?_
  refine rsn 2 (t := (15, [(0, .ref 2), (1, .int x1), (2, .ref x2)], [.int 0, .ref 2])) rfl ?_
  refine ppI rfl rfl rfl rfl (hSh.1.k 2 rfl _) ?_
  refine rsn 1 (t := (19, [(0, .ref 2), (1, .int x1), (2, .ref x2)], [.ref x2])) rfl ?_
  obtain ⟨m1, g1, h⟩ := b3_some h
  refine rcV 18 x2 [] rfl rfl rfl (hSh.kW hx2 _) (Nat.le_of_ble_eq_true rfl) rfl (e_Will_clear N (by omega) hSh hx2 g1) ?_
  show RN xs L al (Ev xs L al d) 17 22 [(0, .ref 2), (1, .int x1), (2, .ref x2)] [] (m1, S) (some (.int r0)) (mf, S)
  refine rsn 1 (t := (23, [(0, .ref 2), (1, .int x1), (2, .ref x2)], [.ref 2])) rfl ?_
  obtain ⟨m2, g2, h⟩ := b3_some h
  refine rcV 19 2 [] rfl rfl rfl (hSh.1.k 2 rfl _) (Nat.le_of_ble_eq_true rfl) rfl (e_Reader_step N (by omega) hSh g2) ?_
  show RN xs L al (Ev xs L al d) 17 26 [(0, .ref 2), (1, .int x1), (2, .ref x2)] [] (m2, S) (some (.int r0)) (mf, S)
  refine rsn 2 (t := (28, [(3, .int 0), (0, .ref 2), (1, .int x1), (2, .ref x2)], [])) rfl ?_
  have ex28 : ∀ (z3_3 : Int32) (m3 : Mm), (some ((mI m3 2 4), m3)) = some (r0, mf) → RN xs L al (Ev xs L al d) 17 78 [(0, .ref 2)] [] (m3, S) (some (.int r0)) (mf, S) := by
    intro z3_3 m3 h
    try dsimp only at h
    refine rsn 1 (t := (79, [(0, .ref 2)], [.ref 2])) rfl ?_
    refine pgI rfl rfl rfl (hSh.1.k 2 rfl _) ?_
    show RN xs L al (Ev xs L al d) 17 82 [(0, .ref 2)] [.int ((mI m3 2 4))] (m3, S) (some (.int r0)) (mf, S)
    cases h
    exact rret rfl ⟨rfl, rfl, _, _, rfl, rfl, rfl, rfl⟩
  have lp28 : ∀ (n : Nat) (y4_3 : Int32) (m4 : Mm), (f_Reader_read_L28 N S x2 (fun (z3_3 : Int32) (m3 : Mm) => some ((mI m3 2 4), m3)) n y4_3 m4) = some (r0, mf) → RN xs L al (Ev xs L al d) 17 28 [(0, .ref 2), (2, .ref x2), (3, .int y4_3)] [] (m4, S) (some (.int r0)) (mf, S) := by
    intro n
    induction n with
    | zero => intro y4_3 m4 h; exact absurd h (by simp [f_Reader_read_L28])
    | succ n28 ih28 =>
      intro y4_3 m4 h
      try dsimp only at h
      rw [f_Reader_read_L28] at h
      try dsimp only at h
      exact rsub [(0, .ref 2), (2, .ref x2), (3, .int y4_3)] ⟨rfl, ⟨rfl, ⟨rfl, trivial⟩⟩⟩ ⟨rfl, ⟨rfl, ⟨rfl, trivial⟩⟩⟩ (ih28 y4_3 m4 h)
  exact rsub [(0, .ref 2), (2, .ref x2), (3, .int 0)] ⟨rfl, ⟨rfl, ⟨rfl, trivial⟩⟩⟩ ⟨rfl, ⟨rfl, ⟨rfl, trivial⟩⟩⟩ (lp28 N 0 m2 h)
def f_SC_fault (N : Nat) (S : St) (m : Mm) : Option (Int32 × Mm) := b2 (f_Reader_read N S ((mI m 0 1)) 3 m) fun r1 m1 => some (r1, m1)
set_option maxRecDepth 20000 in
set_option maxHeartbeats 4000000 in
theorem e_SC_fault {xs : Nat → Int32} {L : Nat} {al : Bool} (N : Nat) {d : Nat} (hd : 8 ≤ d) {S : St} (hSh : ShC S) {m : Mm} {r0 : Int32} {mf : Mm} (h : f_SC_fault N S m = some (r0, mf)) : Ev xs L al d 16 [.ref 0] (m, S) (some (.int r0)) (mf, S) := by
  obtain ⟨d, rfl⟩ : ∃ e, d = e + 1 := ⟨d - 1, by omega⟩
  refine ev_of (by decide) (Nat.le_of_ble_eq_true rfl) ?_
  rw [f_SC_fault] at h
  show RN xs L al (Ev xs L al d) 16 0 [(0, .ref 0)] [] (m, S) (some (.int r0)) (mf, S)
  refine rsn 1 (t := (1, [(0, .ref 0)], [.ref 0])) rfl ?_
  refine rgR rfl rfl rfl (hSh.1.k 0 rfl _) (hSh.1.r 86 rfl _) ?_
  refine rsn 1 (t := (5, [(0, .ref 0)], [.ref 0, .ref 2])) rfl ?_
  refine pgI rfl rfl rfl (hSh.1.k 0 rfl _) ?_
  show RN xs L al (Ev xs L al d) 16 8 [(0, .ref 0)] [.int ((mI m 0 1)), .ref 2] (m, S) (some (.int r0)) (mf, S)
  refine rsn 1 (t := (9, [(0, .ref 0)], [.ref 0, .int ((mI m 0 1)), .ref 2])) rfl ?_
  refine rgR rfl rfl rfl (hSh.1.k 0 rfl _) (hSh.1.r 87 rfl _) ?_
  obtain ⟨r1, m1, g1, h⟩ := b2_some h
  refine rcV 17 2 [.int ((mI m 0 1)), .ref 3] rfl rfl rfl (hSh.1.k 2 rfl _) (Nat.le_of_ble_eq_true rfl) rfl (e_Reader_read N (by omega) hSh (by decide) g1) ?_
  show RN xs L al (Ev xs L al d) 16 15 [(0, .ref 0)] [.int r1] (m1, S) (some (.int r0)) (mf, S)
  cases h
  exact rret rfl ⟨rfl, rfl, _, _, rfl, rfl, rfl, rfl⟩
def f_Will_firstState (N : Nat) (S : St) (x0 : Nat) (m : Mm) : Option (Int64) := b1 (f_Will_early N S x0 m) fun r1 => some ((lsl r1.toInt64 36))
set_option maxRecDepth 20000 in
set_option maxHeartbeats 4000000 in
theorem e_Will_firstState {xs : Nat → Int32} {L : Nat} {al : Bool} (N : Nat) {d : Nat} (hd : 2 ≤ d) {S : St} (hSh : ShC S) {x0 : Nat} (hx0 : x0 ∈ wKl) {m : Mm} {r0 : Int64} (h : f_Will_firstState N S x0 m = some r0) : Ev xs L al d 43 [.ref x0] (m, S) (some (.long r0)) (m, S) := by
  obtain ⟨d, rfl⟩ : ∃ e, d = e + 1 := ⟨d - 1, by omega⟩
  refine ev_of (by decide) (Nat.le_of_ble_eq_true rfl) ?_
  rw [f_Will_firstState] at h
  show RN xs L al (Ev xs L al d) 43 0 [(0, .ref x0)] [] (m, S) (some (.long r0)) (m, S)
  refine rsn 1 (t := (1, [(0, .ref x0)], [.ref x0])) rfl ?_
  obtain ⟨r1, g1, h⟩ := b1_some h
  refine rcV 24 x0 [] rfl rfl rfl (hSh.kW hx0 _) (Nat.le_of_ble_eq_true rfl) rfl (e_Will_early N (by omega) hSh hx0 g1) ?_
  show RN xs L al (Ev xs L al d) 43 4 [(0, .ref x0)] [.int r1] (m, S) (some (.long r0)) (m, S)
  refine rsn 3 (t := (8, [(0, .ref x0)], [.long ((lsl r1.toInt64 36))])) rfl ?_
  cases h
  exact rret rfl ⟨rfl, rfl, _, rfl, rfl, rfl⟩
def f_Ranks_maskOf_L7 (N : Nat) (S : St) (x0 : Nat) (x1 : Int32) (m : Mm) (k7 : Int32 → Int32 → Int32 → Option (Int32)) : Nat → Int32 → Int32 → Int32 → Option (Int32)
  | 0, _, _, _ => none
  | n7 + 1, x2, x3, x4 => f_Ranks_maskOf_L7 N S x0 x1 m k7 n7 x2 x3 x4
def f_Ranks_maskOf (N : Nat) (S : St) (x0 : Nat) (x1 : Int32) (m : Mm) : Option (Int32) := f_Ranks_maskOf_L7 N S x0 x1 m (fun (z1_2 : Int32) (z1_3 : Int32) (z1_4 : Int32) => some z1_2) N 0 1 0
set_option maxRecDepth 20000 in
set_option maxHeartbeats 4000000 in
theorem e_Ranks_maskOf {xs : Nat → Int32} {L : Nat} {al : Bool} (N : Nat) {d : Nat} (hd : 2 ≤ d) {S : St} (hSh : ShC S) {x0 : Nat} {x1 : Int32} (hx0 : x0 ∈ wKl) {m : Mm} {r0 : Int32} (h : f_Ranks_maskOf N S x0 x1 m = some r0) : Ev xs L al d 46 [.ref x0, .int x1] (m, S) (some (.int r0)) (m, S) := by
  obtain ⟨d, rfl⟩ : ∃ e, d = e + 1 := ⟨d - 1, by omega⟩
  refine ev_of (by decide) (Nat.le_of_ble_eq_true rfl) ?_
  rw [f_Ranks_maskOf] at h
  show RN xs L al (Ev xs L al d) 46 0 [(0, .ref x0), (1, .int x1)] [] (m, S) (some (.int r0)) (m, S)
  refine rsn 6 (t := (7, [(4, .int 0), (3, .int 1), (2, .int 0), (0, .ref x0), (1, .int x1)], [])) rfl ?_
  have ex7 : ∀ (z1_2 : Int32) (z1_3 : Int32) (z1_4 : Int32), (some z1_2) = some r0 → RN xs L al (Ev xs L al d) 46 53 [(2, .int z1_2)] [] (m, S) (some (.int r0)) (m, S) := by
    intro z1_2 z1_3 z1_4 h
    try dsimp only at h
    refine rsn 1 (t := (54, [(2, .int z1_2)], [.int z1_2])) rfl ?_
    cases h
    exact rret rfl ⟨rfl, rfl, _, _, rfl, rfl, rfl, rfl⟩
  have lp7 : ∀ (n : Nat) (y2_2 : Int32) (y2_3 : Int32) (y2_4 : Int32), (f_Ranks_maskOf_L7 N S x0 x1 m (fun (z1_2 : Int32) (z1_3 : Int32) (z1_4 : Int32) => some z1_2) n y2_2 y2_3 y2_4) = some r0 → RN xs L al (Ev xs L al d) 46 7 [(0, .ref x0), (1, .int x1), (2, .int y2_2), (3, .int y2_3), (4, .int y2_4)] [] (m, S) (some (.int r0)) (m, S) := by
    intro n
    induction n with
    | zero => intro y2_2 y2_3 y2_4 h; exact absurd h (by simp [f_Ranks_maskOf_L7])
    | succ n7 ih7 =>
      intro y2_2 y2_3 y2_4 h
      try dsimp only at h
      rw [f_Ranks_maskOf_L7] at h
      try dsimp only at h
      exact rsub [(0, .ref x0), (1, .int x1), (2, .int y2_2), (3, .int y2_3), (4, .int y2_4)] ⟨rfl, ⟨rfl, ⟨rfl, ⟨rfl, ⟨rfl, trivial⟩⟩⟩⟩⟩ ⟨rfl, ⟨rfl, ⟨rfl, ⟨rfl, ⟨rfl, trivial⟩⟩⟩⟩⟩ (ih7 y2_2 y2_3 y2_4 h)
  exact rsub [(0, .ref x0), (1, .int x1), (2, .int 0), (3, .int 1), (4, .int 0)] ⟨rfl, ⟨rfl, ⟨rfl, ⟨rfl, ⟨rfl, trivial⟩⟩⟩⟩⟩ ⟨rfl, ⟨rfl, ⟨rfl, ⟨rfl, ⟨rfl, trivial⟩⟩⟩⟩⟩ (lp7 N 0 1 0 h)
def f_Will_alts (N : Nat) (S : St) (x0 : Nat) (x1 : Int32) (m : Mm) : Option (Int32) := (if x1 < 0 then some 0 else (if ((mI m x0 1)) ≤ x1 then some 0 else ck (ix x1 6) (some ((mX m ((x0 + 3)) x1.toNatClampNeg)))))
set_option maxRecDepth 20000 in
set_option maxHeartbeats 4000000 in
theorem e_Will_alts {xs : Nat → Int32} {L : Nat} {al : Bool} (N : Nat) {d : Nat} (hd : 1 ≤ d) {S : St} (hSh : ShC S) {x0 : Nat} {x1 : Int32} (hx0 : x0 ∈ wKl) {m : Mm} {r0 : Int32} (h : f_Will_alts N S x0 x1 m = some r0) : Ev xs L al d 48 [.ref x0, .int x1] (m, S) (some (.int r0)) (m, S) := by
  obtain ⟨d, rfl⟩ : ∃ e, d = e + 1 := ⟨d - 1, by omega⟩
  refine ev_of (by decide) (Nat.le_of_ble_eq_true rfl) ?_
  rw [f_Will_alts] at h
  show RN xs L al (Ev xs L al d) 48 0 [(0, .ref x0), (1, .int x1)] [] (m, S) (some (.int r0)) (m, S)
  refine rsn 1 (t := (1, [(0, .ref x0), (1, .int x1)], [.int x1])) rfl ?_
  by_cases c1 : x1 < 0
  · rw [if_pos c1] at h
    refine rjt (a := (21, [(0, .ref x0), (1, .int x1)], [])) (b := (4, [(0, .ref x0), (1, .int x1)], [])) rfl rfl c1 ?_
    refine rsn 1 (t := (22, [(0, .ref x0), (1, .int x1)], [.int 0])) rfl ?_
    cases h
    exact rret rfl ⟨rfl, rfl, _, _, rfl, rfl, rfl, rfl⟩
  · rw [if_neg c1] at h
    refine rjf (a := (21, [(0, .ref x0), (1, .int x1)], [])) (b := (4, [(0, .ref x0), (1, .int x1)], [])) rfl rfl c1 ?_
    refine rsn 2 (t := (6, [(0, .ref x0), (1, .int x1)], [.ref x0, .int x1])) rfl ?_
    refine pgI rfl rfl rfl (hSh.kW hx0 _) ?_
    show RN xs L al (Ev xs L al d) 48 9 [(0, .ref x0), (1, .int x1)] [.int ((mI m x0 1)), .int x1] (m, S) (some (.int r0)) (m, S)
    by_cases c2 : ((mI m x0 1)) ≤ x1
    · rw [if_pos c2] at h
      refine rjt (a := (21, [(0, .ref x0), (1, .int x1)], [])) (b := (12, [(0, .ref x0), (1, .int x1)], [])) rfl rfl c2 ?_
      refine rsn 1 (t := (22, [(0, .ref x0), (1, .int x1)], [.int 0])) rfl ?_
      cases h
      exact rret rfl ⟨rfl, rfl, _, _, rfl, rfl, rfl, rfl⟩
    · rw [if_neg c2] at h
      refine rjf (a := (21, [(0, .ref x0), (1, .int x1)], [])) (b := (12, [(0, .ref x0), (1, .int x1)], [])) rfl rfl c2 ?_
      refine rsn 1 (t := (13, [(0, .ref x0), (1, .int x1)], [.ref x0])) rfl ?_
      refine rgR rfl rfl rfl (hSh.kW hx0 _) (hSh.rWa3 hx0 _) ?_
      refine rsn 1 (t := (17, [(0, .ref x0), (1, .int x1)], [.int x1, .ref ((x0 + 3))])) rfl ?_
      obtain ⟨c3, h⟩ := ck_some h
      refine pxI rfl (hSh.kWa3 hx0 _) (hSh.lWa3 hx0 _) c3 ?_
      show RN xs L al (Ev xs L al d) 48 18 [(0, .ref x0), (1, .int x1)] [.int ((mX m ((x0 + 3)) x1.toNatClampNeg))] (m, S) (some (.int r0)) (m, S)
      refine rsn 1 (t := (22, [(0, .ref x0), (1, .int x1)], [.int ((mX m ((x0 + 3)) x1.toNatClampNeg))])) rfl ?_
      cases h
      exact rret rfl ⟨rfl, rfl, _, _, rfl, rfl, rfl, rfl⟩
def f_Will_isAlt (N : Nat) (S : St) (x0 : Nat) (x1 : Int32) (x2 : Int32) (m : Mm) : Option (Int32) := (if x1 < 0 then some 0 else (if ((mI m x0 1)) ≤ x1 then some 0 else (if x2 < 0 then some 0 else ck (ix x1 6) ((if ((mX m ((x0 + 3)) x1.toNatClampNeg)) ≤ x2 then some 0 else some 1)))))
set_option maxRecDepth 20000 in
set_option maxHeartbeats 4000000 in
theorem e_Will_isAlt {xs : Nat → Int32} {L : Nat} {al : Bool} (N : Nat) {d : Nat} (hd : 1 ≤ d) {S : St} (hSh : ShC S) {x0 : Nat} {x1 : Int32} {x2 : Int32} (hx0 : x0 ∈ wKl) {m : Mm} {r0 : Int32} (h : f_Will_isAlt N S x0 x1 x2 m = some r0) : Ev xs L al d 50 [.ref x0, .int x1, .int x2] (m, S) (some (.int r0)) (m, S) := by
  obtain ⟨d, rfl⟩ : ∃ e, d = e + 1 := ⟨d - 1, by omega⟩
  refine ev_of (by decide) (Nat.le_of_ble_eq_true rfl) ?_
  rw [f_Will_isAlt] at h
  show RN xs L al (Ev xs L al d) 50 0 [(0, .ref x0), (1, .int x1), (2, .int x2)] [] (m, S) (some (.int r0)) (m, S)
  refine rsn 1 (t := (1, [(0, .ref x0), (1, .int x1), (2, .int x2)], [.int x1])) rfl ?_
  by_cases c1 : x1 < 0
  · rw [if_pos c1] at h
    refine rjt (a := (30, [(0, .ref x0), (1, .int x1), (2, .int x2)], [])) (b := (4, [(0, .ref x0), (1, .int x1), (2, .int x2)], [])) rfl rfl c1 ?_
    refine rsn 1 (t := (31, [(0, .ref x0), (1, .int x1), (2, .int x2)], [.int 0])) rfl ?_
    cases h
    exact rret rfl ⟨rfl, rfl, _, _, rfl, rfl, rfl, rfl⟩
  · rw [if_neg c1] at h
    refine rjf (a := (30, [(0, .ref x0), (1, .int x1), (2, .int x2)], [])) (b := (4, [(0, .ref x0), (1, .int x1), (2, .int x2)], [])) rfl rfl c1 ?_
    refine rsn 2 (t := (6, [(0, .ref x0), (1, .int x1), (2, .int x2)], [.ref x0, .int x1])) rfl ?_
    refine pgI rfl rfl rfl (hSh.kW hx0 _) ?_
    show RN xs L al (Ev xs L al d) 50 9 [(0, .ref x0), (1, .int x1), (2, .int x2)] [.int ((mI m x0 1)), .int x1] (m, S) (some (.int r0)) (m, S)
    by_cases c2 : ((mI m x0 1)) ≤ x1
    · rw [if_pos c2] at h
      refine rjt (a := (30, [(0, .ref x0), (1, .int x1), (2, .int x2)], [])) (b := (12, [(0, .ref x0), (1, .int x1), (2, .int x2)], [])) rfl rfl c2 ?_
      refine rsn 1 (t := (31, [(0, .ref x0), (1, .int x1), (2, .int x2)], [.int 0])) rfl ?_
      cases h
      exact rret rfl ⟨rfl, rfl, _, _, rfl, rfl, rfl, rfl⟩
    · rw [if_neg c2] at h
      refine rjf (a := (30, [(0, .ref x0), (1, .int x1), (2, .int x2)], [])) (b := (12, [(0, .ref x0), (1, .int x1), (2, .int x2)], [])) rfl rfl c2 ?_
      refine rsn 1 (t := (13, [(0, .ref x0), (1, .int x1), (2, .int x2)], [.int x2])) rfl ?_
      by_cases c3 : x2 < 0
      · rw [if_pos c3] at h
        refine rjt (a := (30, [(0, .ref x0), (1, .int x1), (2, .int x2)], [])) (b := (16, [(0, .ref x0), (1, .int x1), (2, .int x2)], [])) rfl rfl c3 ?_
        refine rsn 1 (t := (31, [(0, .ref x0), (1, .int x1), (2, .int x2)], [.int 0])) rfl ?_
        cases h
        exact rret rfl ⟨rfl, rfl, _, _, rfl, rfl, rfl, rfl⟩
      · rw [if_neg c3] at h
        refine rjf (a := (30, [(0, .ref x0), (1, .int x1), (2, .int x2)], [])) (b := (16, [(0, .ref x0), (1, .int x1), (2, .int x2)], [])) rfl rfl c3 ?_
        refine rsn 2 (t := (18, [(0, .ref x0), (1, .int x1), (2, .int x2)], [.ref x0, .int x2])) rfl ?_
        refine rgR rfl rfl rfl (hSh.kW hx0 _) (hSh.rWa3 hx0 _) ?_
        refine rsn 1 (t := (22, [(0, .ref x0), (1, .int x1), (2, .int x2)], [.int x1, .ref ((x0 + 3)), .int x2])) rfl ?_
        obtain ⟨c4, h⟩ := ck_some h
        refine pxI rfl (hSh.kWa3 hx0 _) (hSh.lWa3 hx0 _) c4 ?_
        show RN xs L al (Ev xs L al d) 50 23 [(0, .ref x0), (1, .int x1), (2, .int x2)] [.int ((mX m ((x0 + 3)) x1.toNatClampNeg)), .int x2] (m, S) (some (.int r0)) (m, S)
        by_cases c5 : ((mX m ((x0 + 3)) x1.toNatClampNeg)) ≤ x2
        · rw [if_pos c5] at h
          refine rjt (a := (30, [(0, .ref x0), (1, .int x1), (2, .int x2)], [])) (b := (26, [(0, .ref x0), (1, .int x1), (2, .int x2)], [])) rfl rfl c5 ?_
          refine rsn 1 (t := (31, [(0, .ref x0), (1, .int x1), (2, .int x2)], [.int 0])) rfl ?_
          cases h
          exact rret rfl ⟨rfl, rfl, _, _, rfl, rfl, rfl, rfl⟩
        · rw [if_neg c5] at h
          refine rjf (a := (30, [(0, .ref x0), (1, .int x1), (2, .int x2)], [])) (b := (26, [(0, .ref x0), (1, .int x1), (2, .int x2)], [])) rfl rfl c5 ?_
          refine rsn 2 (t := (31, [(0, .ref x0), (1, .int x1), (2, .int x2)], [.int 1])) rfl ?_
          cases h
          exact rret rfl ⟨rfl, rfl, _, _, rfl, rfl, rfl, rfl⟩
def f_Will_kind (N : Nat) (S : St) (x0 : Nat) (x1 : Int32) (x2 : Int32) (m : Mm) : Option (Int32) := b1 (f_Will_isAlt N S x0 x1 x2 m) fun r1 => (if r1 = 0 then some 2 else ck (ix ((((x1 * 3)) + x2)) 18) (some ((mX m ((x0 + 5)) (((((x1 * 3)) + x2)).toNatClampNeg)))))
set_option maxRecDepth 20000 in
set_option maxHeartbeats 4000000 in
theorem e_Will_kind {xs : Nat → Int32} {L : Nat} {al : Bool} (N : Nat) {d : Nat} (hd : 2 ≤ d) {S : St} (hSh : ShC S) {x0 : Nat} {x1 : Int32} {x2 : Int32} (hx0 : x0 ∈ wKl) {m : Mm} {r0 : Int32} (h : f_Will_kind N S x0 x1 x2 m = some r0) : Ev xs L al d 49 [.ref x0, .int x1, .int x2] (m, S) (some (.int r0)) (m, S) := by
  obtain ⟨d, rfl⟩ : ∃ e, d = e + 1 := ⟨d - 1, by omega⟩
  refine ev_of (by decide) (Nat.le_of_ble_eq_true rfl) ?_
  rw [f_Will_kind] at h
  show RN xs L al (Ev xs L al d) 49 0 [(0, .ref x0), (1, .int x1), (2, .int x2)] [] (m, S) (some (.int r0)) (m, S)
  refine rsn 3 (t := (3, [(0, .ref x0), (1, .int x1), (2, .int x2)], [.int x2, .int x1, .ref x0])) rfl ?_
  obtain ⟨r1, g1, h⟩ := b1_some h
  refine rcV 50 x0 [.int x1, .int x2] rfl rfl rfl (hSh.kW hx0 _) (Nat.le_of_ble_eq_true rfl) rfl (e_Will_isAlt N (by omega) hSh hx0 g1) ?_
  show RN xs L al (Ev xs L al d) 49 6 [(0, .ref x0), (1, .int x1), (2, .int x2)] [.int r1] (m, S) (some (.int r0)) (m, S)
  by_cases c2 : r1 = 0
  · rw [if_pos c2] at h
    refine rjt (a := (22, [(0, .ref x0), (1, .int x1), (2, .int x2)], [])) (b := (9, [(0, .ref x0), (1, .int x1), (2, .int x2)], [])) rfl rfl c2 ?_
    refine rsn 1 (t := (23, [(0, .ref x0), (1, .int x1), (2, .int x2)], [.int 2])) rfl ?_
    cases h
    exact rret rfl ⟨rfl, rfl, _, _, rfl, rfl, rfl, rfl⟩
  · rw [if_neg c2] at h
    refine rjf (a := (22, [(0, .ref x0), (1, .int x1), (2, .int x2)], [])) (b := (9, [(0, .ref x0), (1, .int x1), (2, .int x2)], [])) rfl rfl c2 ?_
    refine rsn 1 (t := (10, [(0, .ref x0), (1, .int x1), (2, .int x2)], [.ref x0])) rfl ?_
    refine rgR rfl rfl rfl (hSh.kW hx0 _) (hSh.rWa5 hx0 _) ?_
    refine rsn 5 (t := (18, [(0, .ref x0), (1, .int x1), (2, .int x2)], [.int ((((x1 * 3)) + x2)), .ref ((x0 + 5))])) rfl ?_
    obtain ⟨c3, h⟩ := ck_some h
    refine pxI rfl (hSh.kWa5 hx0 _) (hSh.lWa5 hx0 _) c3 ?_
    show RN xs L al (Ev xs L al d) 49 19 [(0, .ref x0), (1, .int x1), (2, .int x2)] [.int ((mX m ((x0 + 5)) (((((x1 * 3)) + x2)).toNatClampNeg)))] (m, S) (some (.int r0)) (m, S)
    refine rsn 1 (t := (23, [(0, .ref x0), (1, .int x1), (2, .int x2)], [.int ((mX m ((x0 + 5)) (((((x1 * 3)) + x2)).toNatClampNeg)))])) rfl ?_
    cases h
    exact rret rfl ⟨rfl, rfl, _, _, rfl, rfl, rfl, rfl⟩
