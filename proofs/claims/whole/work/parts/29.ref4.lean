/-! The reference's methods as functions (printed by wip/whole/gen_fun.py). -/
def f_Mo_told_L16 (N : Nat) (x1 : Int64) (m : Mm) (k16 : Int64 → Int32 → Option (Int32)) : Nat → Int64 → Int32 → Option (Int32)
  | 0, _, _ => none
  | n16 + 1, x4, x6 => (if ((mI m 0 18)) ≤ x6 then k16 x4 x6 else f_Mo_told_L16 N x1 m k16 n16 ((x4 * 12)) ((x6 + 1)))
def f_Mo_told (N : Nat) (x1 : Int64) (x3 : Int32) (m : Mm) : Option (Int32) := (if x3 = 0 then some x1.toInt32 else f_Mo_told_L16 N x1 m (fun (z3_4 : Int64) (z3_6 : Int32) => ck (¬ z3_4 = 0) (some (((((x1 * 1000)) / z3_4)).toInt32))) N 1 ((mI m 0 24)))
set_option maxRecDepth 20000 in
set_option maxHeartbeats 4000000 in
theorem e_Mo_told {xs : Nat → Int32} {L : Nat} {al : Bool} (N : Nat) {d : Nat} (hd : 1 ≤ d) {S : St} (hSh : ShR S) {x1 : Int64} {x3 : Int32} {m : Mm} {r0 : Int32} (h : f_Mo_told N x1 x3 m = some r0) : Ev xs L al d 200 [.ref 0, .long x1, .int x3] (m, S) (some (.int r0)) (m, S) := by
  obtain ⟨d, rfl⟩ : ∃ e, d = e + 1 := ⟨d - 1, by omega⟩
  refine ev_of (by decide) (Nat.le_of_ble_eq_true rfl) ?_
  rw [f_Mo_told] at h
  show RN xs L al (Ev xs L al d) 200 0 [(0, .ref 0), (1, .long x1), (3, .int x3)] [] (m, S) (some (.int r0)) (m, S)
  refine rsn 1 (t := (1, [(0, .ref 0), (1, .long x1), (3, .int x3)], [.int x3])) rfl ?_
  by_cases c1 : x3 = 0
  · rw [if_pos c1] at h
    refine rjf (a := (7, [(0, .ref 0), (1, .long x1), (3, .int x3)], [])) (b := (4, [(0, .ref 0), (1, .long x1), (3, .int x3)], [])) rfl rfl (fun q => q c1) ?_
    refine rsn 2 (t := (6, [(0, .ref 0), (1, .long x1), (3, .int x3)], [.int x1.toInt32])) rfl ?_
    cases h
    exact rret rfl ⟨rfl, rfl, _, _, rfl, rfl, rfl, rfl⟩
  · rw [if_neg c1] at h
    refine rjt (a := (7, [(0, .ref 0), (1, .long x1), (3, .int x3)], [])) (b := (4, [(0, .ref 0), (1, .long x1), (3, .int x3)], [])) rfl rfl c1 ?_
    refine rsn 3 (t := (11, [(4, .long 1), (0, .ref 0), (1, .long x1), (3, .int x3)], [.ref 0])) rfl ?_
    refine pgI rfl rfl rfl (hSh.k 0 rfl _) ?_
    show RN xs L al (Ev xs L al d) 200 14 [(4, .long 1), (0, .ref 0), (1, .long x1), (3, .int x3)] [.int ((mI m 0 24))] (m, S) (some (.int r0)) (m, S)
    refine rsn 1 (t := (16, [(6, .int ((mI m 0 24))), (4, .long 1), (0, .ref 0), (1, .long x1), (3, .int x3)], [])) rfl ?_
    have ex16 : ∀ (z3_4 : Int64) (z3_6 : Int32), (ck (¬ z3_4 = 0) (some (((((x1 * 1000)) / z3_4)).toInt32))) = some r0 → RN xs L al (Ev xs L al d) 200 39 [(1, .long x1), (4, .long z3_4)] [] (m, S) (some (.int r0)) (m, S) := by
      intro z3_4 z3_6 h
      try dsimp only at h
      refine rsn 4 (t := (46, [(1, .long x1), (4, .long z3_4)], [.long z3_4, .long ((x1 * 1000))])) rfl ?_
      obtain ⟨c4, h⟩ := ck_some h
      refine rs (t := (47, [(1, .long x1), (4, .long z3_4)], [.long ((((x1 * 1000)) / z3_4))])) rfl (by simp [stp, nxt, dJ, c4, irm, lrm]) ?_
      refine rsn 1 (t := (48, [(1, .long x1), (4, .long z3_4)], [.int (((((x1 * 1000)) / z3_4)).toInt32)])) rfl ?_
      cases h
      exact rret rfl ⟨rfl, rfl, _, _, rfl, rfl, rfl, rfl⟩
    have lp16 : ∀ (n : Nat) (y5_4 : Int64) (y5_6 : Int32), (f_Mo_told_L16 N x1 m (fun (z3_4 : Int64) (z3_6 : Int32) => ck (¬ z3_4 = 0) (some (((((x1 * 1000)) / z3_4)).toInt32))) n y5_4 y5_6) = some r0 → RN xs L al (Ev xs L al d) 200 16 [(0, .ref 0), (1, .long x1), (4, .long y5_4), (6, .int y5_6)] [] (m, S) (some (.int r0)) (m, S) := by
      intro n
      induction n with
      | zero => intro y5_4 y5_6 h; exact absurd h (by simp [f_Mo_told_L16])
      | succ n16 ih16 =>
        intro y5_4 y5_6 h
        try dsimp only at h
        rw [f_Mo_told_L16] at h
        try dsimp only at h
        refine rsn 2 (t := (19, [(0, .ref 0), (1, .long x1), (4, .long y5_4), (6, .int y5_6)], [.ref 0, .int y5_6])) rfl ?_
        refine pgI rfl rfl rfl (hSh.k 0 rfl _) ?_
        show RN xs L al (Ev xs L al d) 200 22 [(0, .ref 0), (1, .long x1), (4, .long y5_4), (6, .int y5_6)] [.int ((mI m 0 18)), .int y5_6] (m, S) (some (.int r0)) (m, S)
        by_cases c6 : ((mI m 0 18)) ≤ y5_6
        · rw [if_pos c6] at h
          refine rjt (a := (39, [(0, .ref 0), (1, .long x1), (4, .long y5_4), (6, .int y5_6)], [])) (b := (25, [(0, .ref 0), (1, .long x1), (4, .long y5_4), (6, .int y5_6)], [])) rfl rfl c6 ?_
          exact rsub [(1, .long x1), (4, .long y5_4)] ⟨rfl, ⟨rfl, trivial⟩⟩ ⟨rfl, ⟨rfl, trivial⟩⟩ (ex16 y5_4 y5_6 h)
        · rw [if_neg c6] at h
          refine rjf (a := (39, [(0, .ref 0), (1, .long x1), (4, .long y5_4), (6, .int y5_6)], [])) (b := (25, [(0, .ref 0), (1, .long x1), (4, .long y5_4), (6, .int y5_6)], [])) rfl rfl c6 ?_
          refine rsn 6 (t := (16, [(6, .int ((y5_6 + 1))), (4, .long ((y5_4 * 12))), (0, .ref 0), (1, .long x1)], [])) rfl ?_
          exact rsub [(0, .ref 0), (1, .long x1), (4, .long ((y5_4 * 12))), (6, .int ((y5_6 + 1)))] ⟨rfl, ⟨rfl, ⟨rfl, ⟨rfl, trivial⟩⟩⟩⟩ ⟨rfl, ⟨rfl, ⟨rfl, ⟨rfl, trivial⟩⟩⟩⟩ (ih16 ((y5_4 * 12)) ((y5_6 + 1)) h)
    exact rsub [(0, .ref 0), (1, .long x1), (4, .long 1), (6, .int ((mI m 0 24)))] ⟨rfl, ⟨rfl, ⟨rfl, ⟨rfl, trivial⟩⟩⟩⟩ ⟨rfl, ⟨rfl, ⟨rfl, ⟨rfl, trivial⟩⟩⟩⟩ (lp16 N 1 ((mI m 0 24)) h)
def f_Mo_sure (N : Nat) (x1 : Int32) (x2 : Int32) (m : Mm) : Option (Int32 × Mm) := (if ((mI m 0 15)) = 0 then some ((-2147483648), m) else b1 (f_Mo_isGoal N x1) fun r2 => (if r2 = 0 then some ((-2147483648), m) else b2 (f_Mo_solved N x1 x2 ((mI m 0 21)) ((mI m 0 22)) m) fun r4 m4 => b1 (f_Mo_told N r4 x2 m4) fun r5 => some (r5, m4)))
set_option maxRecDepth 20000 in
set_option maxHeartbeats 4000000 in
theorem e_Mo_sure {xs : Nat → Int32} {L : Nat} {al : Bool} (N : Nat) {d : Nat} (hd : 9 ≤ d) {S : St} (hSh : ShR S) {x1 : Int32} {x2 : Int32} {m : Mm} {r0 : Int32} {mf : Mm} (h : f_Mo_sure N x1 x2 m = some (r0, mf)) : Ev xs L al d 192 [.ref 0, .int x1, .int x2] (m, S) (some (.int r0)) (mf, S) := by
  obtain ⟨d, rfl⟩ : ∃ e, d = e + 1 := ⟨d - 1, by omega⟩
  refine ev_of (by decide) (Nat.le_of_ble_eq_true rfl) ?_
  rw [f_Mo_sure] at h
  show RN xs L al (Ev xs L al d) 192 0 [(0, .ref 0), (1, .int x1), (2, .int x2)] [] (m, S) (some (.int r0)) (mf, S)
  refine rsn 1 (t := (1, [(0, .ref 0), (1, .int x1), (2, .int x2)], [.ref 0])) rfl ?_
  refine pgI rfl rfl rfl (hSh.k 0 rfl _) ?_
  show RN xs L al (Ev xs L al d) 192 4 [(0, .ref 0), (1, .int x1), (2, .int x2)] [.int ((mI m 0 15))] (m, S) (some (.int r0)) (mf, S)
  by_cases c1 : ((mI m 0 15)) = 0
  · rw [if_pos c1] at h
    refine rjt (a := (36, [(0, .ref 0), (1, .int x1), (2, .int x2)], [])) (b := (7, [(0, .ref 0), (1, .int x1), (2, .int x2)], [])) rfl rfl c1 ?_
    refine rsn 1 (t := (39, [(0, .ref 0), (1, .int x1), (2, .int x2)], [.int ((-2147483648))])) rfl ?_
    cases h
    exact rret rfl ⟨rfl, rfl, _, _, rfl, rfl, rfl, rfl⟩
  · rw [if_neg c1] at h
    refine rjf (a := (36, [(0, .ref 0), (1, .int x1), (2, .int x2)], [])) (b := (7, [(0, .ref 0), (1, .int x1), (2, .int x2)], [])) rfl rfl c1 ?_
    refine rsn 1 (t := (8, [(0, .ref 0), (1, .int x1), (2, .int x2)], [.int x1])) rfl ?_
    obtain ⟨r2, g2, h⟩ := b1_some h
    refine rcS 184 [.int x1] rfl rfl rfl (Nat.le_of_ble_eq_true rfl) rfl (e_Mo_isGoal N (by omega) g2) ?_
    show RN xs L al (Ev xs L al d) 192 11 [(0, .ref 0), (1, .int x1), (2, .int x2)] [.int r2] (m, S) (some (.int r0)) (mf, S)
    by_cases c3 : r2 = 0
    · rw [if_pos c3] at h
      refine rjt (a := (36, [(0, .ref 0), (1, .int x1), (2, .int x2)], [])) (b := (14, [(0, .ref 0), (1, .int x1), (2, .int x2)], [])) rfl rfl c3 ?_
      refine rsn 1 (t := (39, [(0, .ref 0), (1, .int x1), (2, .int x2)], [.int ((-2147483648))])) rfl ?_
      cases h
      exact rret rfl ⟨rfl, rfl, _, _, rfl, rfl, rfl, rfl⟩
    · rw [if_neg c3] at h
      refine rjf (a := (36, [(0, .ref 0), (1, .int x1), (2, .int x2)], [])) (b := (14, [(0, .ref 0), (1, .int x1), (2, .int x2)], [])) rfl rfl c3 ?_
      refine rsn 5 (t := (19, [(0, .ref 0), (1, .int x1), (2, .int x2)], [.ref 0, .int x2, .int x1, .ref 0, .ref 0])) rfl ?_
      refine pgI rfl rfl rfl (hSh.k 0 rfl _) ?_
      show RN xs L al (Ev xs L al d) 192 22 [(0, .ref 0), (1, .int x1), (2, .int x2)] [.int ((mI m 0 21)), .int x2, .int x1, .ref 0, .ref 0] (m, S) (some (.int r0)) (mf, S)
      refine rsn 1 (t := (23, [(0, .ref 0), (1, .int x1), (2, .int x2)], [.ref 0, .int ((mI m 0 21)), .int x2, .int x1, .ref 0, .ref 0])) rfl ?_
      refine pgI rfl rfl rfl (hSh.k 0 rfl _) ?_
      show RN xs L al (Ev xs L al d) 192 26 [(0, .ref 0), (1, .int x1), (2, .int x2)] [.int ((mI m 0 22)), .int ((mI m 0 21)), .int x2, .int x1, .ref 0, .ref 0] (m, S) (some (.int r0)) (mf, S)
      obtain ⟨r4, m4, g4, h⟩ := b2_some h
      refine rcV 193 0 [.int x1, .int x2, .int ((mI m 0 21)), .int ((mI m 0 22))] rfl rfl rfl (hSh.k 0 rfl _) (Nat.le_of_ble_eq_true rfl) rfl (e_Mo_solved N (by omega) hSh g4) ?_
      show RN xs L al (Ev xs L al d) 192 29 [(0, .ref 0), (1, .int x1), (2, .int x2)] [.long r4, .ref 0] (m4, S) (some (.int r0)) (mf, S)
      refine rsn 1 (t := (30, [(0, .ref 0), (1, .int x1), (2, .int x2)], [.int x2, .long r4, .ref 0])) rfl ?_
      obtain ⟨r5, g5, h⟩ := b1_some h
      refine rcV 200 0 [.long r4, .int x2] rfl rfl rfl (hSh.k 0 rfl _) (Nat.le_of_ble_eq_true rfl) rfl (e_Mo_told N (by omega) hSh g5) ?_
      show RN xs L al (Ev xs L al d) 192 33 [(0, .ref 0), (1, .int x1), (2, .int x2)] [.int r5] (m4, S) (some (.int r0)) (mf, S)
      refine rsn 1 (t := (39, [(0, .ref 0), (1, .int x1), (2, .int x2)], [.int r5])) rfl ?_
      cases h
      exact rret rfl ⟨rfl, rfl, _, _, rfl, rfl, rfl, rfl⟩
def f_Mo_best_L35 (N : Nat) (x3 : Int64) (m : Mm) (k35 : Int32 → Option (Int32 × Mm)) : Nat → Int32 → Option (Int32 × Mm)
  | 0, _ => none
  | n35 + 1, x5 => (if 3 < x5 then k35 x5 else b1 (f_Mo_mayGive N ((mJ m 0 23)) x5 ((mI m 0 21))) fun r6 => (if r6 = 0 then f_Mo_best_L35 N x3 m k35 n35 ((x5 + 1)) else b1 (f_Mo_one N x5 ((mI m 0 25))) fun r8 => b1 (f_Mo_valueOf N ((((mJ m 0 23)) + r8)) 0 m) fun r9 => (if r9 = x3 then some (x5, m) else f_Mo_best_L35 N x3 m k35 n35 ((x5 + 1)))))
def f_Mo_best (N : Nat) (x1 : Int32) (x2 : Int32) (m : Mm) : Option (Int32 × Mm) := (if ((mI m 0 25)) = ((-1)) then some ((-1), m) else b1 (f_Mo_isGoal N x1) fun r2 => (if r2 = 0 then some ((-1), m) else b2 (f_Mo_solved N x1 x2 ((mI m 0 21)) ((mI m 0 22)) m) fun r4 m4 => f_Mo_best_L35 N r4 m4 (fun (z11_5 : Int32) => some ((-1), m4)) N 0))
set_option maxRecDepth 20000 in
set_option maxHeartbeats 4000000 in
theorem e_Mo_best {xs : Nat → Int32} {L : Nat} {al : Bool} (N : Nat) {d : Nat} (hd : 9 ≤ d) {S : St} (hSh : ShR S) {x1 : Int32} {x2 : Int32} {m : Mm} {r0 : Int32} {mf : Mm} (h : f_Mo_best N x1 x2 m = some (r0, mf)) : Ev xs L al d 201 [.ref 0, .int x1, .int x2] (m, S) (some (.int r0)) (mf, S) := by
  obtain ⟨d, rfl⟩ : ∃ e, d = e + 1 := ⟨d - 1, by omega⟩
  refine ev_of (by decide) (Nat.le_of_ble_eq_true rfl) ?_
  rw [f_Mo_best] at h
  show RN xs L al (Ev xs L al d) 201 0 [(0, .ref 0), (1, .int x1), (2, .int x2)] [] (m, S) (some (.int r0)) (mf, S)
  refine rsn 1 (t := (1, [(0, .ref 0), (1, .int x1), (2, .int x2)], [.ref 0])) rfl ?_
  refine pgI rfl rfl rfl (hSh.k 0 rfl _) ?_
  show RN xs L al (Ev xs L al d) 201 4 [(0, .ref 0), (1, .int x1), (2, .int x2)] [.int ((mI m 0 25))] (m, S) (some (.int r0)) (mf, S)
  refine rsn 1 (t := (5, [(0, .ref 0), (1, .int x1), (2, .int x2)], [.int ((-1)), .int ((mI m 0 25))])) rfl ?_
  by_cases c1 : ((mI m 0 25)) = ((-1))
  · rw [if_pos c1] at h
    refine rjt (a := (15, [(0, .ref 0), (1, .int x1), (2, .int x2)], [])) (b := (8, [(0, .ref 0), (1, .int x1), (2, .int x2)], [])) rfl rfl c1 ?_
    refine rsn 1 (t := (16, [(0, .ref 0), (1, .int x1), (2, .int x2)], [.int ((-1))])) rfl ?_
    cases h
    exact rret rfl ⟨rfl, rfl, _, _, rfl, rfl, rfl, rfl⟩
  · rw [if_neg c1] at h
    refine rjf (a := (15, [(0, .ref 0), (1, .int x1), (2, .int x2)], [])) (b := (8, [(0, .ref 0), (1, .int x1), (2, .int x2)], [])) rfl rfl c1 ?_
    refine rsn 1 (t := (9, [(0, .ref 0), (1, .int x1), (2, .int x2)], [.int x1])) rfl ?_
    obtain ⟨r2, g2, h⟩ := b1_some h
    refine rcS 184 [.int x1] rfl rfl rfl (Nat.le_of_ble_eq_true rfl) rfl (e_Mo_isGoal N (by omega) g2) ?_
    show RN xs L al (Ev xs L al d) 201 12 [(0, .ref 0), (1, .int x1), (2, .int x2)] [.int r2] (m, S) (some (.int r0)) (mf, S)
    by_cases c3 : r2 = 0
    · rw [if_pos c3] at h
      refine rjf (a := (17, [(0, .ref 0), (1, .int x1), (2, .int x2)], [])) (b := (15, [(0, .ref 0), (1, .int x1), (2, .int x2)], [])) rfl rfl (fun q => q c3) ?_
      refine rsn 1 (t := (16, [(0, .ref 0), (1, .int x1), (2, .int x2)], [.int ((-1))])) rfl ?_
      cases h
      exact rret rfl ⟨rfl, rfl, _, _, rfl, rfl, rfl, rfl⟩
    · rw [if_neg c3] at h
      refine rjt (a := (17, [(0, .ref 0), (1, .int x1), (2, .int x2)], [])) (b := (15, [(0, .ref 0), (1, .int x1), (2, .int x2)], [])) rfl rfl c3 ?_
      refine rsn 4 (t := (21, [(0, .ref 0), (1, .int x1), (2, .int x2)], [.ref 0, .int x2, .int x1, .ref 0])) rfl ?_
      refine pgI rfl rfl rfl (hSh.k 0 rfl _) ?_
      show RN xs L al (Ev xs L al d) 201 24 [(0, .ref 0), (1, .int x1), (2, .int x2)] [.int ((mI m 0 21)), .int x2, .int x1, .ref 0] (m, S) (some (.int r0)) (mf, S)
      refine rsn 1 (t := (25, [(0, .ref 0), (1, .int x1), (2, .int x2)], [.ref 0, .int ((mI m 0 21)), .int x2, .int x1, .ref 0])) rfl ?_
      refine pgI rfl rfl rfl (hSh.k 0 rfl _) ?_
      show RN xs L al (Ev xs L al d) 201 28 [(0, .ref 0), (1, .int x1), (2, .int x2)] [.int ((mI m 0 22)), .int ((mI m 0 21)), .int x2, .int x1, .ref 0] (m, S) (some (.int r0)) (mf, S)
      obtain ⟨r4, m4, g4, h⟩ := b2_some h
      refine rcV 193 0 [.int x1, .int x2, .int ((mI m 0 21)), .int ((mI m 0 22))] rfl rfl rfl (hSh.k 0 rfl _) (Nat.le_of_ble_eq_true rfl) rfl (e_Mo_solved N (by omega) hSh g4) ?_
      show RN xs L al (Ev xs L al d) 201 31 [(0, .ref 0), (1, .int x1), (2, .int x2)] [.long r4] (m4, S) (some (.int r0)) (mf, S)
      refine rsn 3 (t := (35, [(5, .int 0), (3, .long r4), (0, .ref 0), (1, .int x1), (2, .int x2)], [])) rfl ?_
      have ex35 : ∀ (z11_5 : Int32), (some ((-1), m4)) = some (r0, mf) → RN xs L al (Ev xs L al d) 201 90 [] [] (m4, S) (some (.int r0)) (mf, S) := by
        intro z11_5 h
        try dsimp only at h
        refine rsn 1 (t := (91, [], [.int ((-1))])) rfl ?_
        cases h
        exact rret rfl ⟨rfl, rfl, _, _, rfl, rfl, rfl, rfl⟩
      have lp35 : ∀ (n : Nat) (y12_5 : Int32), (f_Mo_best_L35 N r4 m4 (fun (z11_5 : Int32) => some ((-1), m4)) n y12_5) = some (r0, mf) → RN xs L al (Ev xs L al d) 201 35 [(0, .ref 0), (3, .long r4), (5, .int y12_5)] [] (m4, S) (some (.int r0)) (mf, S) := by
        intro n
        induction n with
        | zero => intro y12_5 h; exact absurd h (by simp [f_Mo_best_L35])
        | succ n35 ih35 =>
          intro y12_5 h
          try dsimp only at h
          rw [f_Mo_best_L35] at h
          try dsimp only at h
          refine rsn 2 (t := (38, [(0, .ref 0), (3, .long r4), (5, .int y12_5)], [.int 3, .int y12_5])) rfl ?_
          by_cases c13 : 3 < y12_5
          · rw [if_pos c13] at h
            refine rjt (a := (90, [(0, .ref 0), (3, .long r4), (5, .int y12_5)], [])) (b := (41, [(0, .ref 0), (3, .long r4), (5, .int y12_5)], [])) rfl rfl c13 ?_
            exact rsub [] trivial trivial (ex35 y12_5 h)
          · rw [if_neg c13] at h
            refine rjf (a := (90, [(0, .ref 0), (3, .long r4), (5, .int y12_5)], [])) (b := (41, [(0, .ref 0), (3, .long r4), (5, .int y12_5)], [])) rfl rfl c13 ?_
            refine rsn 1 (t := (42, [(0, .ref 0), (3, .long r4), (5, .int y12_5)], [.ref 0])) rfl ?_
            refine pgJ rfl rfl rfl (hSh.k 0 rfl _) ?_
            show RN xs L al (Ev xs L al d) 201 45 [(0, .ref 0), (3, .long r4), (5, .int y12_5)] [.long ((mJ m4 0 23))] (m4, S) (some (.int r0)) (mf, S)
            refine rsn 2 (t := (48, [(0, .ref 0), (3, .long r4), (5, .int y12_5)], [.ref 0, .int y12_5, .long ((mJ m4 0 23))])) rfl ?_
            refine pgI rfl rfl rfl (hSh.k 0 rfl _) ?_
            show RN xs L al (Ev xs L al d) 201 51 [(0, .ref 0), (3, .long r4), (5, .int y12_5)] [.int ((mI m4 0 21)), .int y12_5, .long ((mJ m4 0 23))] (m4, S) (some (.int r0)) (mf, S)
            obtain ⟨r14, g14, h⟩ := b1_some h
            refine rcS 180 [.long ((mJ m4 0 23)), .int y12_5, .int ((mI m4 0 21))] rfl rfl rfl (Nat.le_of_ble_eq_true rfl) rfl (e_Mo_mayGive N (by omega) g14) ?_
            show RN xs L al (Ev xs L al d) 201 54 [(0, .ref 0), (3, .long r4), (5, .int y12_5)] [.int r14] (m4, S) (some (.int r0)) (mf, S)
            by_cases c15 : r14 = 0
            · rw [if_pos c15] at h
              refine rjt (a := (84, [(0, .ref 0), (3, .long r4), (5, .int y12_5)], [])) (b := (57, [(0, .ref 0), (3, .long r4), (5, .int y12_5)], [])) rfl rfl c15 ?_
              refine rsn 2 (t := (35, [(5, .int ((y12_5 + 1))), (0, .ref 0), (3, .long r4)], [])) rfl ?_
              exact rsub [(0, .ref 0), (3, .long r4), (5, .int ((y12_5 + 1)))] ⟨rfl, ⟨rfl, ⟨rfl, trivial⟩⟩⟩ ⟨rfl, ⟨rfl, ⟨rfl, trivial⟩⟩⟩ (ih35 ((y12_5 + 1)) h)
            · rw [if_neg c15] at h
              refine rjf (a := (84, [(0, .ref 0), (3, .long r4), (5, .int y12_5)], [])) (b := (57, [(0, .ref 0), (3, .long r4), (5, .int y12_5)], [])) rfl rfl c15 ?_
              refine rsn 2 (t := (59, [(0, .ref 0), (3, .long r4), (5, .int y12_5)], [.ref 0, .ref 0])) rfl ?_
              refine pgJ rfl rfl rfl (hSh.k 0 rfl _) ?_
              show RN xs L al (Ev xs L al d) 201 62 [(0, .ref 0), (3, .long r4), (5, .int y12_5)] [.long ((mJ m4 0 23)), .ref 0] (m4, S) (some (.int r0)) (mf, S)
              refine rsn 2 (t := (65, [(0, .ref 0), (3, .long r4), (5, .int y12_5)], [.ref 0, .int y12_5, .long ((mJ m4 0 23)), .ref 0])) rfl ?_
              refine pgI rfl rfl rfl (hSh.k 0 rfl _) ?_
              show RN xs L al (Ev xs L al d) 201 68 [(0, .ref 0), (3, .long r4), (5, .int y12_5)] [.int ((mI m4 0 25)), .int y12_5, .long ((mJ m4 0 23)), .ref 0] (m4, S) (some (.int r0)) (mf, S)
              obtain ⟨r16, g16, h⟩ := b1_some h
              refine rcS 182 [.int y12_5, .int ((mI m4 0 25))] rfl rfl rfl (Nat.le_of_ble_eq_true rfl) rfl (e_Mo_one N (by omega) g16) ?_
              show RN xs L al (Ev xs L al d) 201 71 [(0, .ref 0), (3, .long r4), (5, .int y12_5)] [.long r16, .long ((mJ m4 0 23)), .ref 0] (m4, S) (some (.int r0)) (mf, S)
              refine rsn 2 (t := (73, [(0, .ref 0), (3, .long r4), (5, .int y12_5)], [.int 0, .long ((((mJ m4 0 23)) + r16)), .ref 0])) rfl ?_
              obtain ⟨r17, g17, h⟩ := b1_some h
              refine rcV 198 0 [.long ((((mJ m4 0 23)) + r16)), .int 0] rfl rfl rfl (hSh.k 0 rfl _) (Nat.le_of_ble_eq_true rfl) rfl (e_Mo_valueOf N (by omega) hSh g17) ?_
              show RN xs L al (Ev xs L al d) 201 76 [(0, .ref 0), (3, .long r4), (5, .int y12_5)] [.long r17] (m4, S) (some (.int r0)) (mf, S)
              refine rsn 2 (t := (78, [(0, .ref 0), (3, .long r4), (5, .int y12_5)], [.int ((lg_cmp r17 r4))])) rfl ?_
              by_cases c18 : r17 = r4
              · rw [if_pos c18] at h
                refine rjf (a := (84, [(0, .ref 0), (3, .long r4), (5, .int y12_5)], [])) (b := (81, [(0, .ref 0), (3, .long r4), (5, .int y12_5)], [])) rfl rfl (fun q => q (lgc_eq.mpr c18)) ?_
                refine rsn 1 (t := (83, [(0, .ref 0), (3, .long r4), (5, .int y12_5)], [.int y12_5])) rfl ?_
                cases h
                exact rret rfl ⟨rfl, rfl, _, _, rfl, rfl, rfl, rfl⟩
              · rw [if_neg c18] at h
                refine rjt (a := (84, [(0, .ref 0), (3, .long r4), (5, .int y12_5)], [])) (b := (81, [(0, .ref 0), (3, .long r4), (5, .int y12_5)], [])) rfl rfl (fun q => c18 (lgc_eq.mp q)) ?_
                refine rsn 2 (t := (35, [(5, .int ((y12_5 + 1))), (0, .ref 0), (3, .long r4)], [])) rfl ?_
                exact rsub [(0, .ref 0), (3, .long r4), (5, .int ((y12_5 + 1)))] ⟨rfl, ⟨rfl, ⟨rfl, trivial⟩⟩⟩ ⟨rfl, ⟨rfl, ⟨rfl, trivial⟩⟩⟩ (ih35 ((y12_5 + 1)) h)
      exact rsub [(0, .ref 0), (3, .long r4), (5, .int 0)] ⟨rfl, ⟨rfl, ⟨rfl, trivial⟩⟩⟩ ⟨rfl, ⟨rfl, ⟨rfl, trivial⟩⟩⟩ (lp35 N 0 h)
def f_Mo_proof_L82 (N : Nat) (x2 : Int32) (x5 : Int64) (x8 : Int32) (m : Mm) (k82 : Int32 → Int32 → Option (Int32 × Mm)) : Nat → Int32 → Int32 → Option (Int32 × Mm)
  | 0, _, _ => none
  | n82 + 1, x9, x10 => ck (ix ((((mI m 0 24)) + x8)) 6) ((if ((mX m 8 (((((mI m 0 24)) + x8)).toNatClampNeg))) ≤ x10 then k82 x9 x10 else b1 (f_Mo_after N x5 x8 x10 ((mI m 0 21)) m) fun r11 => b1 (f_Mo_after N x5 x8 x9 ((mI m 0 21)) m) fun r12 => (if r12 ≤ r11 then f_Mo_proof_L82 N x2 x5 x8 m k82 n82 x9 ((x10 + 1)) else f_Mo_proof_L82 N x2 x5 x8 m k82 n82 x10 ((x10 + 1)))))
def f_Mo_proof_L221 (N : Nat) (x2 : Int32) (x5 : Int64) (x8 : Int32) (x9 : Int32) (x10 : Int32) (x11 : Int64) (m : Mm) (k221 : Int32 → Int32 → Option (Int32 × Mm)) : Nat → Int32 → Int32 → Option (Int32 × Mm)
  | 0, _, _ => none
  | n221 + 1, x13, x14 => (if x14 < 0 then k221 x13 x14 else (if x10 = 0 then b1 (f_Mo_altOf N ((((mI m 0 24)) + x8)) x9 2 m) fun r19 => b1 (f_Mo_one N x14 r19) fun r20 => (if x11 = ((x5 + r20)) then f_Mo_proof_L221 N x2 x5 x8 x9 x10 x11 m k221 n221 x14 ((x14 + (-1))) else f_Mo_proof_L221 N x2 x5 x8 x9 x10 x11 m k221 n221 x13 ((x14 + (-1)))) else k221 x13 x14))
def f_Mo_proof_L70 (N : Nat) (x2 : Int32) (m : Mm) (k70 : Int64 → Int32 → Int32 → Option (Int32 × Mm)) : Nat → Int64 → Int32 → Int32 → Option (Int32 × Mm)
  | 0, _, _, _ => none
  | n70 + 1, x5, x7, x8 => (if x2 < x8 then k70 x5 x7 x8 else f_Mo_proof_L82 N x2 x5 x8 m (fun (z14_9 : Int32) (z14_10 : Int32) => b1 (f_Mo_altOf N ((((mI m 0 24)) + x8)) z14_9 1 m) fun r15 => (jn (fun (s16 : Int64) => f_Mo_proof_L221 N x2 x5 x8 z14_9 r15 s16 m (fun (z22_13 : Int32) (z22_14 : Int32) => f_Mo_proof_L70 N x2 m k70 n70 s16 ((((10 * z14_9)) + z22_13)) ((x8 + 1))) N 9 3) (fun j212 => if r15 = 0 then b1 (f_Mo_given N x5 x8 z14_9 ((mI m 0 21)) m) fun r32 => j212 r32 else (if r15 = 1 then b1 (f_Mo_altOf N ((((mI m 0 24)) + x8)) z14_9 2 m) fun r31 => j212 ((x5 ||| ((lsl 1 ((36 + r31)))))) else j212 x5)))) N 0 1)
def f_Mo_proof (N : Nat) (x1 : Int32) (x2 : Int32) (m : Mm) : Option (Int32 × Mm) := (if ((mI m 0 15)) = 0 then some ((-1), m) else (if ((mI m 0 25)) = ((-1)) then b1 (f_Mo_isGoal N x1) fun r3 => (if r3 = 0 then some ((-1), m) else b1 (f_Mo_in N x2 0 ((((((mI m 0 18)) - ((mI m 0 24)))) - 1))) fun r5 => (if r5 = 0 then some ((-1), m) else b2 (f_Mo_solved N x1 0 ((mI m 0 21)) ((mI m 0 22)) m) fun r7 m7 => f_Mo_proof_L70 N x2 m7 (fun (z39_5 : Int64) (z39_7 : Int32) (z39_8 : Int32) => some (z39_7, m7)) N ((mJ m7 0 23)) ((-1)) 0)) else some ((-1), m)))
set_option maxRecDepth 20000 in
set_option maxHeartbeats 4000000 in
theorem e_Mo_proof {xs : Nat → Int32} {L : Nat} {al : Bool} (N : Nat) {d : Nat} (hd : 9 ≤ d) {S : St} (hSh : ShR S) {x1 : Int32} {x2 : Int32} {m : Mm} {r0 : Int32} {mf : Mm} (h : f_Mo_proof N x1 x2 m = some (r0, mf)) : Ev xs L al d 202 [.ref 0, .int x1, .int x2] (m, S) (some (.int r0)) (mf, S) := by
  obtain ⟨d, rfl⟩ : ∃ e, d = e + 1 := ⟨d - 1, by omega⟩
  refine ev_of (by decide) (Nat.le_of_ble_eq_true rfl) ?_
  rw [f_Mo_proof] at h
  show RN xs L al (Ev xs L al d) 202 0 [(0, .ref 0), (1, .int x1), (2, .int x2)] [] (m, S) (some (.int r0)) (mf, S)
  refine rsn 1 (t := (1, [(0, .ref 0), (1, .int x1), (2, .int x2)], [.ref 0])) rfl ?_
  refine pgI rfl rfl rfl (hSh.k 0 rfl _) ?_
  show RN xs L al (Ev xs L al d) 202 4 [(0, .ref 0), (1, .int x1), (2, .int x2)] [.int ((mI m 0 15))] (m, S) (some (.int r0)) (mf, S)
  by_cases c1 : ((mI m 0 15)) = 0
  · rw [if_pos c1] at h
    refine rjt (a := (41, [(0, .ref 0), (1, .int x1), (2, .int x2)], [])) (b := (7, [(0, .ref 0), (1, .int x1), (2, .int x2)], [])) rfl rfl c1 ?_
    refine rsn 1 (t := (42, [(0, .ref 0), (1, .int x1), (2, .int x2)], [.int ((-1))])) rfl ?_
    cases h
    exact rret rfl ⟨rfl, rfl, _, _, rfl, rfl, rfl, rfl⟩
  · rw [if_neg c1] at h
    refine rjf (a := (41, [(0, .ref 0), (1, .int x1), (2, .int x2)], [])) (b := (7, [(0, .ref 0), (1, .int x1), (2, .int x2)], [])) rfl rfl c1 ?_
    refine rsn 1 (t := (8, [(0, .ref 0), (1, .int x1), (2, .int x2)], [.ref 0])) rfl ?_
    refine pgI rfl rfl rfl (hSh.k 0 rfl _) ?_
    show RN xs L al (Ev xs L al d) 202 11 [(0, .ref 0), (1, .int x1), (2, .int x2)] [.int ((mI m 0 25))] (m, S) (some (.int r0)) (mf, S)
    refine rsn 1 (t := (12, [(0, .ref 0), (1, .int x1), (2, .int x2)], [.int ((-1)), .int ((mI m 0 25))])) rfl ?_
    by_cases c2 : ((mI m 0 25)) = ((-1))
    · rw [if_pos c2] at h
      refine rjf (a := (41, [(0, .ref 0), (1, .int x1), (2, .int x2)], [])) (b := (15, [(0, .ref 0), (1, .int x1), (2, .int x2)], [])) rfl rfl (fun q => q c2) ?_
      refine rsn 1 (t := (16, [(0, .ref 0), (1, .int x1), (2, .int x2)], [.int x1])) rfl ?_
      obtain ⟨r3, g3, h⟩ := b1_some h
      refine rcS 184 [.int x1] rfl rfl rfl (Nat.le_of_ble_eq_true rfl) rfl (e_Mo_isGoal N (by omega) g3) ?_
      show RN xs L al (Ev xs L al d) 202 19 [(0, .ref 0), (1, .int x1), (2, .int x2)] [.int r3] (m, S) (some (.int r0)) (mf, S)
      by_cases c4 : r3 = 0
      · rw [if_pos c4] at h
        refine rjt (a := (41, [(0, .ref 0), (1, .int x1), (2, .int x2)], [])) (b := (22, [(0, .ref 0), (1, .int x1), (2, .int x2)], [])) rfl rfl c4 ?_
        refine rsn 1 (t := (42, [(0, .ref 0), (1, .int x1), (2, .int x2)], [.int ((-1))])) rfl ?_
        cases h
        exact rret rfl ⟨rfl, rfl, _, _, rfl, rfl, rfl, rfl⟩
      · rw [if_neg c4] at h
        refine rjf (a := (41, [(0, .ref 0), (1, .int x1), (2, .int x2)], [])) (b := (22, [(0, .ref 0), (1, .int x1), (2, .int x2)], [])) rfl rfl c4 ?_
        refine rsn 3 (t := (25, [(0, .ref 0), (1, .int x1), (2, .int x2)], [.ref 0, .int 0, .int x2])) rfl ?_
        refine pgI rfl rfl rfl (hSh.k 0 rfl _) ?_
        show RN xs L al (Ev xs L al d) 202 28 [(0, .ref 0), (1, .int x1), (2, .int x2)] [.int ((mI m 0 18)), .int 0, .int x2] (m, S) (some (.int r0)) (mf, S)
        refine rsn 1 (t := (29, [(0, .ref 0), (1, .int x1), (2, .int x2)], [.ref 0, .int ((mI m 0 18)), .int 0, .int x2])) rfl ?_
        refine pgI rfl rfl rfl (hSh.k 0 rfl _) ?_
        show RN xs L al (Ev xs L al d) 202 32 [(0, .ref 0), (1, .int x1), (2, .int x2)] [.int ((mI m 0 24)), .int ((mI m 0 18)), .int 0, .int x2] (m, S) (some (.int r0)) (mf, S)
        refine rsn 3 (t := (35, [(0, .ref 0), (1, .int x1), (2, .int x2)], [.int ((((((mI m 0 18)) - ((mI m 0 24)))) - 1)), .int 0, .int x2])) rfl ?_
        obtain ⟨r5, g5, h⟩ := b1_some h
        refine rcS 146 [.int x2, .int 0, .int ((((((mI m 0 18)) - ((mI m 0 24)))) - 1))] rfl rfl rfl (Nat.le_of_ble_eq_true rfl) rfl (e_Mo_in N (by omega) g5) ?_
        show RN xs L al (Ev xs L al d) 202 38 [(0, .ref 0), (1, .int x1), (2, .int x2)] [.int r5] (m, S) (some (.int r0)) (mf, S)
        by_cases c6 : r5 = 0
        · rw [if_pos c6] at h
          refine rjf (a := (43, [(0, .ref 0), (1, .int x1), (2, .int x2)], [])) (b := (41, [(0, .ref 0), (1, .int x1), (2, .int x2)], [])) rfl rfl (fun q => q c6) ?_
          refine rsn 1 (t := (42, [(0, .ref 0), (1, .int x1), (2, .int x2)], [.int ((-1))])) rfl ?_
          cases h
          exact rret rfl ⟨rfl, rfl, _, _, rfl, rfl, rfl, rfl⟩
        · rw [if_neg c6] at h
          refine rjt (a := (43, [(0, .ref 0), (1, .int x1), (2, .int x2)], [])) (b := (41, [(0, .ref 0), (1, .int x1), (2, .int x2)], [])) rfl rfl c6 ?_
          refine rsn 4 (t := (47, [(0, .ref 0), (1, .int x1), (2, .int x2)], [.ref 0, .int 0, .int x1, .ref 0])) rfl ?_
          refine pgI rfl rfl rfl (hSh.k 0 rfl _) ?_
          show RN xs L al (Ev xs L al d) 202 50 [(0, .ref 0), (1, .int x1), (2, .int x2)] [.int ((mI m 0 21)), .int 0, .int x1, .ref 0] (m, S) (some (.int r0)) (mf, S)
          refine rsn 1 (t := (51, [(0, .ref 0), (1, .int x1), (2, .int x2)], [.ref 0, .int ((mI m 0 21)), .int 0, .int x1, .ref 0])) rfl ?_
          refine pgI rfl rfl rfl (hSh.k 0 rfl _) ?_
          show RN xs L al (Ev xs L al d) 202 54 [(0, .ref 0), (1, .int x1), (2, .int x2)] [.int ((mI m 0 22)), .int ((mI m 0 21)), .int 0, .int x1, .ref 0] (m, S) (some (.int r0)) (mf, S)
          obtain ⟨r7, m7, g7, h⟩ := b2_some h
          refine rcV 193 0 [.int x1, .int 0, .int ((mI m 0 21)), .int ((mI m 0 22))] rfl rfl rfl (hSh.k 0 rfl _) (Nat.le_of_ble_eq_true rfl) rfl (e_Mo_solved N (by omega) hSh g7) ?_
          show RN xs L al (Ev xs L al d) 202 57 [(0, .ref 0), (1, .int x1), (2, .int x2)] [.long r7] (m7, S) (some (.int r0)) (mf, S)
          refine rsn 2 (t := (59, [(3, .long r7), (0, .ref 0), (1, .int x1), (2, .int x2)], [.ref 0])) rfl ?_
          refine pgJ rfl rfl rfl (hSh.k 0 rfl _) ?_
          show RN xs L al (Ev xs L al d) 202 62 [(3, .long r7), (0, .ref 0), (1, .int x1), (2, .int x2)] [.long ((mJ m7 0 23))] (m7, S) (some (.int r0)) (mf, S)
          refine rsn 5 (t := (70, [(8, .int 0), (7, .int ((-1))), (5, .long ((mJ m7 0 23))), (3, .long r7), (0, .ref 0), (1, .int x1), (2, .int x2)], [])) rfl ?_
          have ex70 : ∀ (z39_5 : Int64) (z39_7 : Int32) (z39_8 : Int32), (some (z39_7, m7)) = some (r0, mf) → RN xs L al (Ev xs L al d) 202 289 [(7, .int z39_7)] [] (m7, S) (some (.int r0)) (mf, S) := by
            intro z39_5 z39_7 z39_8 h
            try dsimp only at h
            refine rsn 1 (t := (291, [(7, .int z39_7)], [.int z39_7])) rfl ?_
            cases h
            exact rret rfl ⟨rfl, rfl, _, _, rfl, rfl, rfl, rfl⟩
          have lp70 : ∀ (n : Nat) (y40_5 : Int64) (y40_7 : Int32) (y40_8 : Int32), (f_Mo_proof_L70 N x2 m7 (fun (z39_5 : Int64) (z39_7 : Int32) (z39_8 : Int32) => some (z39_7, m7)) n y40_5 y40_7 y40_8) = some (r0, mf) → RN xs L al (Ev xs L al d) 202 70 [(0, .ref 0), (2, .int x2), (5, .long y40_5), (7, .int y40_7), (8, .int y40_8)] [] (m7, S) (some (.int r0)) (mf, S) := by
            intro n
            induction n with
            | zero => intro y40_5 y40_7 y40_8 h; exact absurd h (by simp [f_Mo_proof_L70])
            | succ n70 ih70 =>
              intro y40_5 y40_7 y40_8 h
              try dsimp only at h
              rw [f_Mo_proof_L70] at h
              try dsimp only at h
              refine rsn 2 (t := (73, [(0, .ref 0), (2, .int x2), (5, .long y40_5), (7, .int y40_7), (8, .int y40_8)], [.int x2, .int y40_8])) rfl ?_
              by_cases c41 : x2 < y40_8
              · rw [if_pos c41] at h
                refine rjt (a := (289, [(0, .ref 0), (2, .int x2), (5, .long y40_5), (7, .int y40_7), (8, .int y40_8)], [])) (b := (76, [(0, .ref 0), (2, .int x2), (5, .long y40_5), (7, .int y40_7), (8, .int y40_8)], [])) rfl rfl c41 ?_
                exact rsub [(7, .int y40_7)] ⟨rfl, trivial⟩ ⟨rfl, trivial⟩ (ex70 y40_5 y40_7 y40_8 h)
              · rw [if_neg c41] at h
                refine rjf (a := (289, [(0, .ref 0), (2, .int x2), (5, .long y40_5), (7, .int y40_7), (8, .int y40_8)], [])) (b := (76, [(0, .ref 0), (2, .int x2), (5, .long y40_5), (7, .int y40_7), (8, .int y40_8)], [])) rfl rfl c41 ?_
                refine rsn 4 (t := (82, [(10, .int 1), (9, .int 0), (0, .ref 0), (2, .int x2), (5, .long y40_5), (7, .int y40_7), (8, .int y40_8)], [])) rfl ?_
                have ex82 : ∀ (z47_9 : Int32) (z47_10 : Int32), (b1 (f_Mo_altOf N ((((mI m7 0 24)) + y40_8)) z47_9 1 m7) fun r48 => (jn (fun (s49 : Int64) => f_Mo_proof_L221 N x2 y40_5 y40_8 z47_9 r48 s49 m7 (fun (z55_13 : Int32) (z55_14 : Int32) => f_Mo_proof_L70 N x2 m7 (fun (z39_5 : Int64) (z39_7 : Int32) (z39_8 : Int32) => some (z39_7, m7)) n70 s49 ((((10 * z47_9)) + z55_13)) ((y40_8 + 1))) N 9 3) (fun j212 => if r48 = 0 then b1 (f_Mo_given N y40_5 y40_8 z47_9 ((mI m7 0 21)) m7) fun r65 => j212 r65 else (if r48 = 1 then b1 (f_Mo_altOf N ((((mI m7 0 24)) + y40_8)) z47_9 2 m7) fun r64 => j212 ((y40_5 ||| ((lsl 1 ((36 + r64)))))) else j212 y40_5)))) = some (r0, mf) → RN xs L al (Ev xs L al d) 202 141 [(0, .ref 0), (2, .int x2), (5, .long y40_5), (8, .int y40_8), (9, .int z47_9)] [] (m7, S) (some (.int r0)) (mf, S) := by
                  intro z47_9 z47_10 h
                  try dsimp only at h
                  refine rsn 2 (t := (143, [(0, .ref 0), (2, .int x2), (5, .long y40_5), (8, .int y40_8), (9, .int z47_9)], [.ref 0, .ref 0])) rfl ?_
                  refine pgI rfl rfl rfl (hSh.k 0 rfl _) ?_
                  show RN xs L al (Ev xs L al d) 202 146 [(0, .ref 0), (2, .int x2), (5, .long y40_5), (8, .int y40_8), (9, .int z47_9)] [.int ((mI m7 0 24)), .ref 0] (m7, S) (some (.int r0)) (mf, S)
                  refine rsn 4 (t := (152, [(0, .ref 0), (2, .int x2), (5, .long y40_5), (8, .int y40_8), (9, .int z47_9)], [.int 1, .int z47_9, .int ((((mI m7 0 24)) + y40_8)), .ref 0])) rfl ?_
                  obtain ⟨r48, g48, h⟩ := b1_some h
                  refine rcV 177 0 [.int ((((mI m7 0 24)) + y40_8)), .int z47_9, .int 1] rfl rfl rfl (hSh.k 0 rfl _) (Nat.le_of_ble_eq_true rfl) rfl (e_Mo_altOf N (by omega) hSh g48) ?_
                  show RN xs L al (Ev xs L al d) 202 155 [(0, .ref 0), (2, .int x2), (5, .long y40_5), (8, .int y40_8), (9, .int z47_9)] [.int r48] (m7, S) (some (.int r0)) (mf, S)
                  refine rsn 2 (t := (159, [(10, .int r48), (0, .ref 0), (2, .int x2), (5, .long y40_5), (8, .int y40_8), (9, .int z47_9)], [.int r48])) rfl ?_
                  have jp212 : ∀ (s49 : Int64), (f_Mo_proof_L221 N x2 y40_5 y40_8 z47_9 r48 s49 m7 (fun (z55_13 : Int32) (z55_14 : Int32) => f_Mo_proof_L70 N x2 m7 (fun (z39_5 : Int64) (z39_7 : Int32) (z39_8 : Int32) => some (z39_7, m7)) n70 s49 ((((10 * z47_9)) + z55_13)) ((y40_8 + 1))) N 9 3) = some (r0, mf) → RN xs L al (Ev xs L al d) 202 212 [(0, .ref 0), (2, .int x2), (5, .long y40_5), (8, .int y40_8), (9, .int z47_9), (10, .int r48)] [.long s49] (m7, S) (some (.int r0)) (mf, S) := by
                    intro s49 h
                    try dsimp only at h
                    refine rsn 5 (t := (221, [(14, .int 3), (13, .int 9), (11, .long s49), (0, .ref 0), (2, .int x2), (5, .long y40_5), (8, .int y40_8), (9, .int z47_9), (10, .int r48)], [])) rfl ?_
                    have ex221 : ∀ (z55_13 : Int32) (z55_14 : Int32), (f_Mo_proof_L70 N x2 m7 (fun (z39_5 : Int64) (z39_7 : Int32) (z39_8 : Int32) => some (z39_7, m7)) n70 s49 ((((10 * z47_9)) + z55_13)) ((y40_8 + 1))) = some (r0, mf) → RN xs L al (Ev xs L al d) 202 269 [(0, .ref 0), (2, .int x2), (8, .int y40_8), (9, .int z47_9), (11, .long s49), (13, .int z55_13)] [] (m7, S) (some (.int r0)) (mf, S) := by
                      intro z55_13 z55_14 h
                      try dsimp only at h
                      refine rsn 10 (t := (70, [(8, .int ((y40_8 + 1))), (5, .long s49), (7, .int ((((10 * z47_9)) + z55_13))), (0, .ref 0), (2, .int x2), (9, .int z47_9), (11, .long s49), (13, .int z55_13)], [])) rfl ?_
                      exact rsub [(0, .ref 0), (2, .int x2), (5, .long s49), (7, .int ((((10 * z47_9)) + z55_13))), (8, .int ((y40_8 + 1)))] ⟨rfl, ⟨rfl, ⟨rfl, ⟨rfl, ⟨rfl, trivial⟩⟩⟩⟩⟩ ⟨rfl, ⟨rfl, ⟨rfl, ⟨rfl, ⟨rfl, trivial⟩⟩⟩⟩⟩ (ih70 s49 ((((10 * z47_9)) + z55_13)) ((y40_8 + 1)) h)
                    have lp221 : ∀ (n : Nat) (y56_13 : Int32) (y56_14 : Int32), (f_Mo_proof_L221 N x2 y40_5 y40_8 z47_9 r48 s49 m7 (fun (z55_13 : Int32) (z55_14 : Int32) => f_Mo_proof_L70 N x2 m7 (fun (z39_5 : Int64) (z39_7 : Int32) (z39_8 : Int32) => some (z39_7, m7)) n70 s49 ((((10 * z47_9)) + z55_13)) ((y40_8 + 1))) n y56_13 y56_14) = some (r0, mf) → RN xs L al (Ev xs L al d) 202 221 [(0, .ref 0), (2, .int x2), (5, .long y40_5), (8, .int y40_8), (9, .int z47_9), (10, .int r48), (11, .long s49), (13, .int y56_13), (14, .int y56_14)] [] (m7, S) (some (.int r0)) (mf, S) := by
                      intro n
                      induction n with
                      | zero => intro y56_13 y56_14 h; exact absurd h (by simp [f_Mo_proof_L221])
                      | succ n221 ih221 =>
                        intro y56_13 y56_14 h
                        try dsimp only at h
                        rw [f_Mo_proof_L221] at h
                        try dsimp only at h
                        refine rsn 1 (t := (223, [(0, .ref 0), (2, .int x2), (5, .long y40_5), (8, .int y40_8), (9, .int z47_9), (10, .int r48), (11, .long s49), (13, .int y56_13), (14, .int y56_14)], [.int y56_14])) rfl ?_
                        by_cases c57 : y56_14 < 0
                        · rw [if_pos c57] at h
                          refine rjt (a := (269, [(0, .ref 0), (2, .int x2), (5, .long y40_5), (8, .int y40_8), (9, .int z47_9), (10, .int r48), (11, .long s49), (13, .int y56_13), (14, .int y56_14)], [])) (b := (226, [(0, .ref 0), (2, .int x2), (5, .long y40_5), (8, .int y40_8), (9, .int z47_9), (10, .int r48), (11, .long s49), (13, .int y56_13), (14, .int y56_14)], [])) rfl rfl c57 ?_
                          exact rsub [(0, .ref 0), (2, .int x2), (8, .int y40_8), (9, .int z47_9), (11, .long s49), (13, .int y56_13)] ⟨rfl, ⟨rfl, ⟨rfl, ⟨rfl, ⟨rfl, ⟨rfl, trivial⟩⟩⟩⟩⟩⟩ ⟨rfl, ⟨rfl, ⟨rfl, ⟨rfl, ⟨rfl, ⟨rfl, trivial⟩⟩⟩⟩⟩⟩ (ex221 y56_13 y56_14 h)
                        · rw [if_neg c57] at h
                          refine rjf (a := (269, [(0, .ref 0), (2, .int x2), (5, .long y40_5), (8, .int y40_8), (9, .int z47_9), (10, .int r48), (11, .long s49), (13, .int y56_13), (14, .int y56_14)], [])) (b := (226, [(0, .ref 0), (2, .int x2), (5, .long y40_5), (8, .int y40_8), (9, .int z47_9), (10, .int r48), (11, .long s49), (13, .int y56_13), (14, .int y56_14)], [])) rfl rfl c57 ?_
                          refine rsn 1 (t := (228, [(0, .ref 0), (2, .int x2), (5, .long y40_5), (8, .int y40_8), (9, .int z47_9), (10, .int r48), (11, .long s49), (13, .int y56_13), (14, .int y56_14)], [.int r48])) rfl ?_
                          by_cases c58 : r48 = 0
                          · rw [if_pos c58] at h
                            refine rjf (a := (269, [(0, .ref 0), (2, .int x2), (5, .long y40_5), (8, .int y40_8), (9, .int z47_9), (10, .int r48), (11, .long s49), (13, .int y56_13), (14, .int y56_14)], [])) (b := (231, [(0, .ref 0), (2, .int x2), (5, .long y40_5), (8, .int y40_8), (9, .int z47_9), (10, .int r48), (11, .long s49), (13, .int y56_13), (14, .int y56_14)], [])) rfl rfl (fun q => q c58) ?_
                            refine rsn 5 (t := (239, [(0, .ref 0), (2, .int x2), (5, .long y40_5), (8, .int y40_8), (9, .int z47_9), (10, .int r48), (11, .long s49), (13, .int y56_13), (14, .int y56_14)], [.ref 0, .ref 0, .int y56_14, .long y40_5, .long s49])) rfl ?_
                            refine pgI rfl rfl rfl (hSh.k 0 rfl _) ?_
                            show RN xs L al (Ev xs L al d) 202 242 [(0, .ref 0), (2, .int x2), (5, .long y40_5), (8, .int y40_8), (9, .int z47_9), (10, .int r48), (11, .long s49), (13, .int y56_13), (14, .int y56_14)] [.int ((mI m7 0 24)), .ref 0, .int y56_14, .long y40_5, .long s49] (m7, S) (some (.int r0)) (mf, S)
                            refine rsn 4 (t := (248, [(0, .ref 0), (2, .int x2), (5, .long y40_5), (8, .int y40_8), (9, .int z47_9), (10, .int r48), (11, .long s49), (13, .int y56_13), (14, .int y56_14)], [.int 2, .int z47_9, .int ((((mI m7 0 24)) + y40_8)), .ref 0, .int y56_14, .long y40_5, .long s49])) rfl ?_
                            obtain ⟨r59, g59, h⟩ := b1_some h
                            refine rcV 177 0 [.int ((((mI m7 0 24)) + y40_8)), .int z47_9, .int 2] rfl rfl rfl (hSh.k 0 rfl _) (Nat.le_of_ble_eq_true rfl) rfl (e_Mo_altOf N (by omega) hSh g59) ?_
                            show RN xs L al (Ev xs L al d) 202 251 [(0, .ref 0), (2, .int x2), (5, .long y40_5), (8, .int y40_8), (9, .int z47_9), (10, .int r48), (11, .long s49), (13, .int y56_13), (14, .int y56_14)] [.int r59, .int y56_14, .long y40_5, .long s49] (m7, S) (some (.int r0)) (mf, S)
                            obtain ⟨r60, g60, h⟩ := b1_some h
                            refine rcS 182 [.int y56_14, .int r59] rfl rfl rfl (Nat.le_of_ble_eq_true rfl) rfl (e_Mo_one N (by omega) g60) ?_
                            show RN xs L al (Ev xs L al d) 202 254 [(0, .ref 0), (2, .int x2), (5, .long y40_5), (8, .int y40_8), (9, .int z47_9), (10, .int r48), (11, .long s49), (13, .int y56_13), (14, .int y56_14)] [.long r60, .long y40_5, .long s49] (m7, S) (some (.int r0)) (mf, S)
                            refine rsn 2 (t := (256, [(0, .ref 0), (2, .int x2), (5, .long y40_5), (8, .int y40_8), (9, .int z47_9), (10, .int r48), (11, .long s49), (13, .int y56_13), (14, .int y56_14)], [.int ((lg_cmp s49 ((y40_5 + r60))))])) rfl ?_
                            by_cases c61 : s49 = ((y40_5 + r60))
                            · rw [if_pos c61] at h
                              refine rjf (a := (263, [(0, .ref 0), (2, .int x2), (5, .long y40_5), (8, .int y40_8), (9, .int z47_9), (10, .int r48), (11, .long s49), (13, .int y56_13), (14, .int y56_14)], [])) (b := (259, [(0, .ref 0), (2, .int x2), (5, .long y40_5), (8, .int y40_8), (9, .int z47_9), (10, .int r48), (11, .long s49), (13, .int y56_13), (14, .int y56_14)], [])) rfl rfl (fun q => q (lgc_eq.mpr c61)) ?_
                              refine rsn 4 (t := (221, [(14, .int ((y56_14 + (-1)))), (13, .int y56_14), (0, .ref 0), (2, .int x2), (5, .long y40_5), (8, .int y40_8), (9, .int z47_9), (10, .int r48), (11, .long s49)], [])) rfl ?_
                              exact rsub [(0, .ref 0), (2, .int x2), (5, .long y40_5), (8, .int y40_8), (9, .int z47_9), (10, .int r48), (11, .long s49), (13, .int y56_14), (14, .int ((y56_14 + (-1))))] ⟨rfl, ⟨rfl, ⟨rfl, ⟨rfl, ⟨rfl, ⟨rfl, ⟨rfl, ⟨rfl, ⟨rfl, trivial⟩⟩⟩⟩⟩⟩⟩⟩⟩ ⟨rfl, ⟨rfl, ⟨rfl, ⟨rfl, ⟨rfl, ⟨rfl, ⟨rfl, ⟨rfl, ⟨rfl, trivial⟩⟩⟩⟩⟩⟩⟩⟩⟩ (ih221 y56_14 ((y56_14 + (-1))) h)
                            · rw [if_neg c61] at h
                              refine rjt (a := (263, [(0, .ref 0), (2, .int x2), (5, .long y40_5), (8, .int y40_8), (9, .int z47_9), (10, .int r48), (11, .long s49), (13, .int y56_13), (14, .int y56_14)], [])) (b := (259, [(0, .ref 0), (2, .int x2), (5, .long y40_5), (8, .int y40_8), (9, .int z47_9), (10, .int r48), (11, .long s49), (13, .int y56_13), (14, .int y56_14)], [])) rfl rfl (fun q => c61 (lgc_eq.mp q)) ?_
                              refine rsn 2 (t := (221, [(14, .int ((y56_14 + (-1)))), (0, .ref 0), (2, .int x2), (5, .long y40_5), (8, .int y40_8), (9, .int z47_9), (10, .int r48), (11, .long s49), (13, .int y56_13)], [])) rfl ?_
                              exact rsub [(0, .ref 0), (2, .int x2), (5, .long y40_5), (8, .int y40_8), (9, .int z47_9), (10, .int r48), (11, .long s49), (13, .int y56_13), (14, .int ((y56_14 + (-1))))] ⟨rfl, ⟨rfl, ⟨rfl, ⟨rfl, ⟨rfl, ⟨rfl, ⟨rfl, ⟨rfl, ⟨rfl, trivial⟩⟩⟩⟩⟩⟩⟩⟩⟩ ⟨rfl, ⟨rfl, ⟨rfl, ⟨rfl, ⟨rfl, ⟨rfl, ⟨rfl, ⟨rfl, ⟨rfl, trivial⟩⟩⟩⟩⟩⟩⟩⟩⟩ (ih221 y56_13 ((y56_14 + (-1))) h)
                          · rw [if_neg c58] at h
                            refine rjt (a := (269, [(0, .ref 0), (2, .int x2), (5, .long y40_5), (8, .int y40_8), (9, .int z47_9), (10, .int r48), (11, .long s49), (13, .int y56_13), (14, .int y56_14)], [])) (b := (231, [(0, .ref 0), (2, .int x2), (5, .long y40_5), (8, .int y40_8), (9, .int z47_9), (10, .int r48), (11, .long s49), (13, .int y56_13), (14, .int y56_14)], [])) rfl rfl c58 ?_
                            exact rsub [(0, .ref 0), (2, .int x2), (8, .int y40_8), (9, .int z47_9), (11, .long s49), (13, .int y56_13)] ⟨rfl, ⟨rfl, ⟨rfl, ⟨rfl, ⟨rfl, ⟨rfl, trivial⟩⟩⟩⟩⟩⟩ ⟨rfl, ⟨rfl, ⟨rfl, ⟨rfl, ⟨rfl, ⟨rfl, trivial⟩⟩⟩⟩⟩⟩ (ex221 y56_13 y56_14 h)
                    exact rsub [(0, .ref 0), (2, .int x2), (5, .long y40_5), (8, .int y40_8), (9, .int z47_9), (10, .int r48), (11, .long s49), (13, .int 9), (14, .int 3)] ⟨rfl, ⟨rfl, ⟨rfl, ⟨rfl, ⟨rfl, ⟨rfl, ⟨rfl, ⟨rfl, ⟨rfl, trivial⟩⟩⟩⟩⟩⟩⟩⟩⟩ ⟨rfl, ⟨rfl, ⟨rfl, ⟨rfl, ⟨rfl, ⟨rfl, ⟨rfl, ⟨rfl, ⟨rfl, trivial⟩⟩⟩⟩⟩⟩⟩⟩⟩ (lp221 N 9 3 h)
                  rw [jn] at h
                  try dsimp only at h
                  by_cases c62 : r48 = 0
                  · rw [if_pos c62] at h
                    refine rjf (a := (179, [(10, .int r48), (0, .ref 0), (2, .int x2), (5, .long y40_5), (8, .int y40_8), (9, .int z47_9)], [])) (b := (162, [(10, .int r48), (0, .ref 0), (2, .int x2), (5, .long y40_5), (8, .int y40_8), (9, .int z47_9)], [])) rfl rfl (fun q => q c62) ?_
                    refine rsn 5 (t := (170, [(10, .int r48), (0, .ref 0), (2, .int x2), (5, .long y40_5), (8, .int y40_8), (9, .int z47_9)], [.ref 0, .int z47_9, .int y40_8, .long y40_5, .ref 0])) rfl ?_
                    refine pgI rfl rfl rfl (hSh.k 0 rfl _) ?_
                    show RN xs L al (Ev xs L al d) 202 173 [(10, .int r48), (0, .ref 0), (2, .int x2), (5, .long y40_5), (8, .int y40_8), (9, .int z47_9)] [.int ((mI m7 0 21)), .int z47_9, .int y40_8, .long y40_5, .ref 0] (m7, S) (some (.int r0)) (mf, S)
                    obtain ⟨r65, g65, h⟩ := b1_some h
                    refine rcV 199 0 [.long y40_5, .int y40_8, .int z47_9, .int ((mI m7 0 21))] rfl rfl rfl (hSh.k 0 rfl _) (Nat.le_of_ble_eq_true rfl) rfl (e_Mo_given N (by omega) hSh g65) ?_
                    show RN xs L al (Ev xs L al d) 202 176 [(10, .int r48), (0, .ref 0), (2, .int x2), (5, .long y40_5), (8, .int y40_8), (9, .int z47_9)] [.long r65] (m7, S) (some (.int r0)) (mf, S)
                    refine rsn 1 (t := (212, [(10, .int r48), (0, .ref 0), (2, .int x2), (5, .long y40_5), (8, .int y40_8), (9, .int z47_9)], [.long r65])) rfl ?_
                    exact rsub [(0, .ref 0), (2, .int x2), (5, .long y40_5), (8, .int y40_8), (9, .int z47_9), (10, .int r48)] ⟨rfl, ⟨rfl, ⟨rfl, ⟨rfl, ⟨rfl, ⟨rfl, trivial⟩⟩⟩⟩⟩⟩ ⟨rfl, ⟨rfl, ⟨rfl, ⟨rfl, ⟨rfl, ⟨rfl, trivial⟩⟩⟩⟩⟩⟩ (jp212 r65 h)
                  · rw [if_neg c62] at h
                    refine rjt (a := (179, [(10, .int r48), (0, .ref 0), (2, .int x2), (5, .long y40_5), (8, .int y40_8), (9, .int z47_9)], [])) (b := (162, [(10, .int r48), (0, .ref 0), (2, .int x2), (5, .long y40_5), (8, .int y40_8), (9, .int z47_9)], [])) rfl rfl c62 ?_
                    refine rsn 2 (t := (182, [(10, .int r48), (0, .ref 0), (2, .int x2), (5, .long y40_5), (8, .int y40_8), (9, .int z47_9)], [.int 1, .int r48])) rfl ?_
                    by_cases c63 : r48 = 1
                    · rw [if_pos c63] at h
                      refine rjf (a := (210, [(10, .int r48), (0, .ref 0), (2, .int x2), (5, .long y40_5), (8, .int y40_8), (9, .int z47_9)], [])) (b := (185, [(10, .int r48), (0, .ref 0), (2, .int x2), (5, .long y40_5), (8, .int y40_8), (9, .int z47_9)], [])) rfl rfl (fun q => q c63) ?_
                      refine rsn 5 (t := (192, [(10, .int r48), (0, .ref 0), (2, .int x2), (5, .long y40_5), (8, .int y40_8), (9, .int z47_9)], [.ref 0, .ref 0, .int 36, .long 1, .long y40_5])) rfl ?_
                      refine pgI rfl rfl rfl (hSh.k 0 rfl _) ?_
                      show RN xs L al (Ev xs L al d) 202 195 [(10, .int r48), (0, .ref 0), (2, .int x2), (5, .long y40_5), (8, .int y40_8), (9, .int z47_9)] [.int ((mI m7 0 24)), .ref 0, .int 36, .long 1, .long y40_5] (m7, S) (some (.int r0)) (mf, S)
                      refine rsn 4 (t := (201, [(10, .int r48), (0, .ref 0), (2, .int x2), (5, .long y40_5), (8, .int y40_8), (9, .int z47_9)], [.int 2, .int z47_9, .int ((((mI m7 0 24)) + y40_8)), .ref 0, .int 36, .long 1, .long y40_5])) rfl ?_
                      obtain ⟨r64, g64, h⟩ := b1_some h
                      refine rcV 177 0 [.int ((((mI m7 0 24)) + y40_8)), .int z47_9, .int 2] rfl rfl rfl (hSh.k 0 rfl _) (Nat.le_of_ble_eq_true rfl) rfl (e_Mo_altOf N (by omega) hSh g64) ?_
                      show RN xs L al (Ev xs L al d) 202 204 [(10, .int r48), (0, .ref 0), (2, .int x2), (5, .long y40_5), (8, .int y40_8), (9, .int z47_9)] [.int r64, .int 36, .long 1, .long y40_5] (m7, S) (some (.int r0)) (mf, S)
                      refine rsn 1 (t := (205, [(10, .int r48), (0, .ref 0), (2, .int x2), (5, .long y40_5), (8, .int y40_8), (9, .int z47_9)], [.int ((36 + r64)), .long 1, .long y40_5])) rfl ?_
                      refine rsn 1 (t := (206, [(10, .int r48), (0, .ref 0), (2, .int x2), (5, .long y40_5), (8, .int y40_8), (9, .int z47_9)], [.long ((lsl 1 ((36 + r64)))), .long y40_5])) rfl ?_
                      refine rsn 2 (t := (212, [(10, .int r48), (0, .ref 0), (2, .int x2), (5, .long y40_5), (8, .int y40_8), (9, .int z47_9)], [.long ((y40_5 ||| ((lsl 1 ((36 + r64))))))])) rfl ?_
                      exact rsub [(0, .ref 0), (2, .int x2), (5, .long y40_5), (8, .int y40_8), (9, .int z47_9), (10, .int r48)] ⟨rfl, ⟨rfl, ⟨rfl, ⟨rfl, ⟨rfl, ⟨rfl, trivial⟩⟩⟩⟩⟩⟩ ⟨rfl, ⟨rfl, ⟨rfl, ⟨rfl, ⟨rfl, ⟨rfl, trivial⟩⟩⟩⟩⟩⟩ (jp212 ((y40_5 ||| ((lsl 1 ((36 + r64)))))) h)
                    · rw [if_neg c63] at h
                      refine rjt (a := (210, [(10, .int r48), (0, .ref 0), (2, .int x2), (5, .long y40_5), (8, .int y40_8), (9, .int z47_9)], [])) (b := (185, [(10, .int r48), (0, .ref 0), (2, .int x2), (5, .long y40_5), (8, .int y40_8), (9, .int z47_9)], [])) rfl rfl c63 ?_
                      refine rsn 1 (t := (212, [(10, .int r48), (0, .ref 0), (2, .int x2), (5, .long y40_5), (8, .int y40_8), (9, .int z47_9)], [.long y40_5])) rfl ?_
                      exact rsub [(0, .ref 0), (2, .int x2), (5, .long y40_5), (8, .int y40_8), (9, .int z47_9), (10, .int r48)] ⟨rfl, ⟨rfl, ⟨rfl, ⟨rfl, ⟨rfl, ⟨rfl, trivial⟩⟩⟩⟩⟩⟩ ⟨rfl, ⟨rfl, ⟨rfl, ⟨rfl, ⟨rfl, ⟨rfl, trivial⟩⟩⟩⟩⟩⟩ (jp212 y40_5 h)
                have lp82 : ∀ (n : Nat) (y66_9 : Int32) (y66_10 : Int32), (f_Mo_proof_L82 N x2 y40_5 y40_8 m7 (fun (z47_9 : Int32) (z47_10 : Int32) => b1 (f_Mo_altOf N ((((mI m7 0 24)) + y40_8)) z47_9 1 m7) fun r48 => (jn (fun (s49 : Int64) => f_Mo_proof_L221 N x2 y40_5 y40_8 z47_9 r48 s49 m7 (fun (z55_13 : Int32) (z55_14 : Int32) => f_Mo_proof_L70 N x2 m7 (fun (z39_5 : Int64) (z39_7 : Int32) (z39_8 : Int32) => some (z39_7, m7)) n70 s49 ((((10 * z47_9)) + z55_13)) ((y40_8 + 1))) N 9 3) (fun j212 => if r48 = 0 then b1 (f_Mo_given N y40_5 y40_8 z47_9 ((mI m7 0 21)) m7) fun r65 => j212 r65 else (if r48 = 1 then b1 (f_Mo_altOf N ((((mI m7 0 24)) + y40_8)) z47_9 2 m7) fun r64 => j212 ((y40_5 ||| ((lsl 1 ((36 + r64)))))) else j212 y40_5)))) n y66_9 y66_10) = some (r0, mf) → RN xs L al (Ev xs L al d) 202 82 [(0, .ref 0), (2, .int x2), (5, .long y40_5), (8, .int y40_8), (9, .int y66_9), (10, .int y66_10)] [] (m7, S) (some (.int r0)) (mf, S) := by
                  intro n
                  induction n with
                  | zero => intro y66_9 y66_10 h; exact absurd h (by simp [f_Mo_proof_L82])
                  | succ n82 ih82 =>
                    intro y66_9 y66_10 h
                    try dsimp only at h
                    rw [f_Mo_proof_L82] at h
                    try dsimp only at h
                    refine rsn 2 (t := (85, [(0, .ref 0), (2, .int x2), (5, .long y40_5), (8, .int y40_8), (9, .int y66_9), (10, .int y66_10)], [.ref 0, .int y66_10])) rfl ?_
                    refine rgR rfl rfl rfl (hSh.k 0 rfl _) (hSh.r 7 rfl _) ?_
                    refine rsn 1 (t := (89, [(0, .ref 0), (2, .int x2), (5, .long y40_5), (8, .int y40_8), (9, .int y66_9), (10, .int y66_10)], [.ref 0, .ref 8, .int y66_10])) rfl ?_
                    refine pgI rfl rfl rfl (hSh.k 0 rfl _) ?_
                    show RN xs L al (Ev xs L al d) 202 92 [(0, .ref 0), (2, .int x2), (5, .long y40_5), (8, .int y40_8), (9, .int y66_9), (10, .int y66_10)] [.int ((mI m7 0 24)), .ref 8, .int y66_10] (m7, S) (some (.int r0)) (mf, S)
                    refine rsn 2 (t := (95, [(0, .ref 0), (2, .int x2), (5, .long y40_5), (8, .int y40_8), (9, .int y66_9), (10, .int y66_10)], [.int ((((mI m7 0 24)) + y40_8)), .ref 8, .int y66_10])) rfl ?_
                    obtain ⟨c67, h⟩ := ck_some h
                    refine pxI rfl (hSh.k 8 rfl _) (hSh.l 7 rfl _) c67 ?_
                    show RN xs L al (Ev xs L al d) 202 96 [(0, .ref 0), (2, .int x2), (5, .long y40_5), (8, .int y40_8), (9, .int y66_9), (10, .int y66_10)] [.int ((mX m7 8 (((((mI m7 0 24)) + y40_8)).toNatClampNeg))), .int y66_10] (m7, S) (some (.int r0)) (mf, S)
                    by_cases c68 : ((mX m7 8 (((((mI m7 0 24)) + y40_8)).toNatClampNeg))) ≤ y66_10
                    · rw [if_pos c68] at h
                      refine rjt (a := (141, [(0, .ref 0), (2, .int x2), (5, .long y40_5), (8, .int y40_8), (9, .int y66_9), (10, .int y66_10)], [])) (b := (99, [(0, .ref 0), (2, .int x2), (5, .long y40_5), (8, .int y40_8), (9, .int y66_9), (10, .int y66_10)], [])) rfl rfl c68 ?_
                      exact rsub [(0, .ref 0), (2, .int x2), (5, .long y40_5), (8, .int y40_8), (9, .int y66_9)] ⟨rfl, ⟨rfl, ⟨rfl, ⟨rfl, ⟨rfl, trivial⟩⟩⟩⟩⟩ ⟨rfl, ⟨rfl, ⟨rfl, ⟨rfl, ⟨rfl, trivial⟩⟩⟩⟩⟩ (ex82 y66_9 y66_10 h)
                    · rw [if_neg c68] at h
                      refine rjf (a := (141, [(0, .ref 0), (2, .int x2), (5, .long y40_5), (8, .int y40_8), (9, .int y66_9), (10, .int y66_10)], [])) (b := (99, [(0, .ref 0), (2, .int x2), (5, .long y40_5), (8, .int y40_8), (9, .int y66_9), (10, .int y66_10)], [])) rfl rfl c68 ?_
                      refine rsn 5 (t := (107, [(0, .ref 0), (2, .int x2), (5, .long y40_5), (8, .int y40_8), (9, .int y66_9), (10, .int y66_10)], [.ref 0, .int y66_10, .int y40_8, .long y40_5, .ref 0])) rfl ?_
                      refine pgI rfl rfl rfl (hSh.k 0 rfl _) ?_
                      show RN xs L al (Ev xs L al d) 202 110 [(0, .ref 0), (2, .int x2), (5, .long y40_5), (8, .int y40_8), (9, .int y66_9), (10, .int y66_10)] [.int ((mI m7 0 21)), .int y66_10, .int y40_8, .long y40_5, .ref 0] (m7, S) (some (.int r0)) (mf, S)
                      obtain ⟨r69, g69, h⟩ := b1_some h
                      refine rcV 197 0 [.long y40_5, .int y40_8, .int y66_10, .int ((mI m7 0 21))] rfl rfl rfl (hSh.k 0 rfl _) (Nat.le_of_ble_eq_true rfl) rfl (e_Mo_after N (by omega) hSh g69) ?_
                      show RN xs L al (Ev xs L al d) 202 113 [(0, .ref 0), (2, .int x2), (5, .long y40_5), (8, .int y40_8), (9, .int y66_9), (10, .int y66_10)] [.long r69] (m7, S) (some (.int r0)) (mf, S)
                      refine rsn 5 (t := (121, [(0, .ref 0), (2, .int x2), (5, .long y40_5), (8, .int y40_8), (9, .int y66_9), (10, .int y66_10)], [.ref 0, .int y66_9, .int y40_8, .long y40_5, .ref 0, .long r69])) rfl ?_
                      refine pgI rfl rfl rfl (hSh.k 0 rfl _) ?_
                      show RN xs L al (Ev xs L al d) 202 124 [(0, .ref 0), (2, .int x2), (5, .long y40_5), (8, .int y40_8), (9, .int y66_9), (10, .int y66_10)] [.int ((mI m7 0 21)), .int y66_9, .int y40_8, .long y40_5, .ref 0, .long r69] (m7, S) (some (.int r0)) (mf, S)
                      obtain ⟨r70, g70, h⟩ := b1_some h
                      refine rcV 197 0 [.long y40_5, .int y40_8, .int y66_9, .int ((mI m7 0 21))] rfl rfl rfl (hSh.k 0 rfl _) (Nat.le_of_ble_eq_true rfl) rfl (e_Mo_after N (by omega) hSh g70) ?_
                      show RN xs L al (Ev xs L al d) 202 127 [(0, .ref 0), (2, .int x2), (5, .long y40_5), (8, .int y40_8), (9, .int y66_9), (10, .int y66_10)] [.long r70, .long r69] (m7, S) (some (.int r0)) (mf, S)
                      refine rsn 1 (t := (128, [(0, .ref 0), (2, .int x2), (5, .long y40_5), (8, .int y40_8), (9, .int y66_9), (10, .int y66_10)], [.int ((lg_cmp r69 r70))])) rfl ?_
                      by_cases c71 : r70 ≤ r69
                      · rw [if_pos c71] at h
                        refine rjt (a := (135, [(0, .ref 0), (2, .int x2), (5, .long y40_5), (8, .int y40_8), (9, .int y66_9), (10, .int y66_10)], [])) (b := (131, [(0, .ref 0), (2, .int x2), (5, .long y40_5), (8, .int y40_8), (9, .int y66_9), (10, .int y66_10)], [])) rfl rfl (lgc_ge.mpr c71) ?_
                        refine rsn 2 (t := (82, [(10, .int ((y66_10 + 1))), (0, .ref 0), (2, .int x2), (5, .long y40_5), (8, .int y40_8), (9, .int y66_9)], [])) rfl ?_
                        exact rsub [(0, .ref 0), (2, .int x2), (5, .long y40_5), (8, .int y40_8), (9, .int y66_9), (10, .int ((y66_10 + 1)))] ⟨rfl, ⟨rfl, ⟨rfl, ⟨rfl, ⟨rfl, ⟨rfl, trivial⟩⟩⟩⟩⟩⟩ ⟨rfl, ⟨rfl, ⟨rfl, ⟨rfl, ⟨rfl, ⟨rfl, trivial⟩⟩⟩⟩⟩⟩ (ih82 y66_9 ((y66_10 + 1)) h)
                      · rw [if_neg c71] at h
                        refine rjf (a := (135, [(0, .ref 0), (2, .int x2), (5, .long y40_5), (8, .int y40_8), (9, .int y66_9), (10, .int y66_10)], [])) (b := (131, [(0, .ref 0), (2, .int x2), (5, .long y40_5), (8, .int y40_8), (9, .int y66_9), (10, .int y66_10)], [])) rfl rfl (fun q => c71 (lgc_ge.mp q)) ?_
                        refine rsn 4 (t := (82, [(10, .int ((y66_10 + 1))), (9, .int y66_10), (0, .ref 0), (2, .int x2), (5, .long y40_5), (8, .int y40_8)], [])) rfl ?_
                        exact rsub [(0, .ref 0), (2, .int x2), (5, .long y40_5), (8, .int y40_8), (9, .int y66_10), (10, .int ((y66_10 + 1)))] ⟨rfl, ⟨rfl, ⟨rfl, ⟨rfl, ⟨rfl, ⟨rfl, trivial⟩⟩⟩⟩⟩⟩ ⟨rfl, ⟨rfl, ⟨rfl, ⟨rfl, ⟨rfl, ⟨rfl, trivial⟩⟩⟩⟩⟩⟩ (ih82 y66_10 ((y66_10 + 1)) h)
                exact rsub [(0, .ref 0), (2, .int x2), (5, .long y40_5), (8, .int y40_8), (9, .int 0), (10, .int 1)] ⟨rfl, ⟨rfl, ⟨rfl, ⟨rfl, ⟨rfl, ⟨rfl, trivial⟩⟩⟩⟩⟩⟩ ⟨rfl, ⟨rfl, ⟨rfl, ⟨rfl, ⟨rfl, ⟨rfl, trivial⟩⟩⟩⟩⟩⟩ (lp82 N 0 1 h)
          exact rsub [(0, .ref 0), (2, .int x2), (5, .long ((mJ m7 0 23))), (7, .int ((-1))), (8, .int 0)] ⟨rfl, ⟨rfl, ⟨rfl, ⟨rfl, ⟨rfl, trivial⟩⟩⟩⟩⟩ ⟨rfl, ⟨rfl, ⟨rfl, ⟨rfl, ⟨rfl, trivial⟩⟩⟩⟩⟩ (lp70 N ((mJ m7 0 23)) ((-1)) 0 h)
    · rw [if_neg c2] at h
      refine rjt (a := (41, [(0, .ref 0), (1, .int x1), (2, .int x2)], [])) (b := (15, [(0, .ref 0), (1, .int x1), (2, .int x2)], [])) rfl rfl c2 ?_
      refine rsn 1 (t := (42, [(0, .ref 0), (1, .int x1), (2, .int x2)], [.int ((-1))])) rfl ?_
      cases h
      exact rret rfl ⟨rfl, rfl, _, _, rfl, rfl, rfl, rfl⟩
def f_Mo_isRow_L4 (N : Nat) (x1 : Int32) (k4 : Int32 → Int32 → Mm → Option (Int32 × Mm)) : Nat → Int32 → Int32 → Mm → Option (Int32 × Mm)
  | 0, _, _, _ => none
  | n4 + 1, x2, x3, m => (if ((((mI m 0 18)) - ((mI m 0 24)))) ≤ x3 then k4 x2 x3 m else ck (ix x3 6) (f_Mo_isRow_L4 N x1 k4 n4 ((isr x2 2)) ((x3 + 1)) ((vX m 21 x3.toNatClampNeg ((x2 &&& 3))))))
def f_Mo_isRow (N : Nat) (x1 : Int32) (m : Mm) : Option (Int32 × Mm) := f_Mo_isRow_L4 N x1 (fun (z3_2 : Int32) (z3_3 : Int32) (m3 : Mm) => (if x1 < 0 then some (0, m3) else (if z3_2 = 0 then some (1, m3) else some (0, m3)))) N x1 0 m
set_option maxRecDepth 20000 in
set_option maxHeartbeats 4000000 in
theorem e_Mo_isRow {xs : Nat → Int32} {L : Nat} {al : Bool} (N : Nat) {d : Nat} (hd : 1 ≤ d) {S : St} (hSh : ShR S) {x1 : Int32} {m : Mm} {r0 : Int32} {mf : Mm} (h : f_Mo_isRow N x1 m = some (r0, mf)) : Ev xs L al d 205 [.ref 0, .int x1] (m, S) (some (.int r0)) (mf, S) := by
  obtain ⟨d, rfl⟩ : ∃ e, d = e + 1 := ⟨d - 1, by omega⟩
  refine ev_of (by decide) (Nat.le_of_ble_eq_true rfl) ?_
  rw [f_Mo_isRow] at h
  show RN xs L al (Ev xs L al d) 205 0 [(0, .ref 0), (1, .int x1)] [] (m, S) (some (.int r0)) (mf, S)
  refine rsn 4 (t := (4, [(3, .int 0), (2, .int x1), (0, .ref 0), (1, .int x1)], [])) rfl ?_
  have ex4 : ∀ (z3_2 : Int32) (z3_3 : Int32) (m3 : Mm), ((if x1 < 0 then some (0, m3) else (if z3_2 = 0 then some (1, m3) else some (0, m3)))) = some (r0, mf) → RN xs L al (Ev xs L al d) 205 36 [(1, .int x1), (2, .int z3_2)] [] (m3, S) (some (.int r0)) (mf, S) := by
    intro z3_2 z3_3 m3 h
    try dsimp only at h
    refine rsn 1 (t := (37, [(1, .int x1), (2, .int z3_2)], [.int x1])) rfl ?_
    by_cases c4 : x1 < 0
    · rw [if_pos c4] at h
      refine rjt (a := (48, [(1, .int x1), (2, .int z3_2)], [])) (b := (40, [(1, .int x1), (2, .int z3_2)], [])) rfl rfl c4 ?_
      refine rsn 1 (t := (49, [(1, .int x1), (2, .int z3_2)], [.int 0])) rfl ?_
      cases h
      exact rret rfl ⟨rfl, rfl, _, _, rfl, rfl, rfl, rfl⟩
    · rw [if_neg c4] at h
      refine rjf (a := (48, [(1, .int x1), (2, .int z3_2)], [])) (b := (40, [(1, .int x1), (2, .int z3_2)], [])) rfl rfl c4 ?_
      refine rsn 1 (t := (41, [(1, .int x1), (2, .int z3_2)], [.int z3_2])) rfl ?_
      by_cases c5 : z3_2 = 0
      · rw [if_pos c5] at h
        refine rjf (a := (48, [(1, .int x1), (2, .int z3_2)], [])) (b := (44, [(1, .int x1), (2, .int z3_2)], [])) rfl rfl (fun q => q c5) ?_
        refine rsn 2 (t := (49, [(1, .int x1), (2, .int z3_2)], [.int 1])) rfl ?_
        cases h
        exact rret rfl ⟨rfl, rfl, _, _, rfl, rfl, rfl, rfl⟩
      · rw [if_neg c5] at h
        refine rjt (a := (48, [(1, .int x1), (2, .int z3_2)], [])) (b := (44, [(1, .int x1), (2, .int z3_2)], [])) rfl rfl c5 ?_
        refine rsn 1 (t := (49, [(1, .int x1), (2, .int z3_2)], [.int 0])) rfl ?_
        cases h
        exact rret rfl ⟨rfl, rfl, _, _, rfl, rfl, rfl, rfl⟩
  have lp4 : ∀ (n : Nat) (y6_2 : Int32) (y6_3 : Int32) (m6 : Mm), (f_Mo_isRow_L4 N x1 (fun (z3_2 : Int32) (z3_3 : Int32) (m3 : Mm) => (if x1 < 0 then some (0, m3) else (if z3_2 = 0 then some (1, m3) else some (0, m3)))) n y6_2 y6_3 m6) = some (r0, mf) → RN xs L al (Ev xs L al d) 205 4 [(0, .ref 0), (1, .int x1), (2, .int y6_2), (3, .int y6_3)] [] (m6, S) (some (.int r0)) (mf, S) := by
    intro n
    induction n with
    | zero => intro y6_2 y6_3 m6 h; exact absurd h (by simp [f_Mo_isRow_L4])
    | succ n4 ih4 =>
      intro y6_2 y6_3 m6 h
      try dsimp only at h
      rw [f_Mo_isRow_L4] at h
      try dsimp only at h
      refine rsn 2 (t := (6, [(0, .ref 0), (1, .int x1), (2, .int y6_2), (3, .int y6_3)], [.ref 0, .int y6_3])) rfl ?_
      refine pgI rfl rfl rfl (hSh.k 0 rfl _) ?_
      show RN xs L al (Ev xs L al d) 205 9 [(0, .ref 0), (1, .int x1), (2, .int y6_2), (3, .int y6_3)] [.int ((mI m6 0 18)), .int y6_3] (m6, S) (some (.int r0)) (mf, S)
      refine rsn 1 (t := (10, [(0, .ref 0), (1, .int x1), (2, .int y6_2), (3, .int y6_3)], [.ref 0, .int ((mI m6 0 18)), .int y6_3])) rfl ?_
      refine pgI rfl rfl rfl (hSh.k 0 rfl _) ?_
      show RN xs L al (Ev xs L al d) 205 13 [(0, .ref 0), (1, .int x1), (2, .int y6_2), (3, .int y6_3)] [.int ((mI m6 0 24)), .int ((mI m6 0 18)), .int y6_3] (m6, S) (some (.int r0)) (mf, S)
      refine rsn 1 (t := (14, [(0, .ref 0), (1, .int x1), (2, .int y6_2), (3, .int y6_3)], [.int ((((mI m6 0 18)) - ((mI m6 0 24)))), .int y6_3])) rfl ?_
      by_cases c7 : ((((mI m6 0 18)) - ((mI m6 0 24)))) ≤ y6_3
      · rw [if_pos c7] at h
        refine rjt (a := (36, [(0, .ref 0), (1, .int x1), (2, .int y6_2), (3, .int y6_3)], [])) (b := (17, [(0, .ref 0), (1, .int x1), (2, .int y6_2), (3, .int y6_3)], [])) rfl rfl c7 ?_
        exact rsub [(1, .int x1), (2, .int y6_2)] ⟨rfl, ⟨rfl, trivial⟩⟩ ⟨rfl, ⟨rfl, trivial⟩⟩ (ex4 y6_2 y6_3 m6 h)
      · rw [if_neg c7] at h
        refine rjf (a := (36, [(0, .ref 0), (1, .int x1), (2, .int y6_2), (3, .int y6_3)], [])) (b := (17, [(0, .ref 0), (1, .int x1), (2, .int y6_2), (3, .int y6_3)], [])) rfl rfl c7 ?_
        refine rsn 1 (t := (18, [(0, .ref 0), (1, .int x1), (2, .int y6_2), (3, .int y6_3)], [.ref 0])) rfl ?_
        refine rgR rfl rfl rfl (hSh.k 0 rfl _) (hSh.r 20 rfl _) ?_
        refine rsn 4 (t := (25, [(0, .ref 0), (1, .int x1), (2, .int y6_2), (3, .int y6_3)], [.int ((y6_2 &&& 3)), .int y6_3, .ref 21])) rfl ?_
        obtain ⟨c8, h⟩ := ck_some h
        refine psI rfl (hSh.k 21 rfl _) (hSh.l 20 rfl _) c8 ?_
        refine rsn 6 (t := (4, [(3, .int ((y6_3 + 1))), (2, .int ((isr y6_2 2))), (0, .ref 0), (1, .int x1)], [])) rfl ?_
        exact rsub [(0, .ref 0), (1, .int x1), (2, .int ((isr y6_2 2))), (3, .int ((y6_3 + 1)))] ⟨rfl, ⟨rfl, ⟨rfl, ⟨rfl, trivial⟩⟩⟩⟩ ⟨rfl, ⟨rfl, ⟨rfl, ⟨rfl, trivial⟩⟩⟩⟩ (ih4 ((isr y6_2 2)) ((y6_3 + 1)) ((vX m6 21 y6_3.toNatClampNeg ((y6_2 &&& 3)))) h)
  exact rsub [(0, .ref 0), (1, .int x1), (2, .int x1), (3, .int 0)] ⟨rfl, ⟨rfl, ⟨rfl, ⟨rfl, trivial⟩⟩⟩⟩ ⟨rfl, ⟨rfl, ⟨rfl, ⟨rfl, trivial⟩⟩⟩⟩ (lp4 N x1 0 m h)
def f_Mo_isAltRow_L12 (N : Nat) (m : Mm) (k12 : Int32 → Option (Int32 × Mm)) : Nat → Int32 → Option (Int32 × Mm)
  | 0, _ => none
  | n12 + 1, x2 => (if ((((mI m 0 18)) - ((mI m 0 24)))) ≤ x2 then k12 x2 else ck (ix x2 6) (ck (ix ((((mI m 0 24)) + x2)) 6) ((if ((mX m 21 x2.toNatClampNeg)) < ((mX m 8 (((((mI m 0 24)) + x2)).toNatClampNeg))) then f_Mo_isAltRow_L12 N m k12 n12 ((x2 + 1)) else some (0, m)))))
def f_Mo_isAltRow (N : Nat) (x1 : Int32) (m : Mm) : Option (Int32 × Mm) := b2 (f_Mo_isRow N x1 m) fun r1 m1 => (if r1 = 0 then some (0, m1) else f_Mo_isAltRow_L12 N m1 (fun (z7_2 : Int32) => some (1, m1)) N 0)
set_option maxRecDepth 20000 in
set_option maxHeartbeats 4000000 in
theorem e_Mo_isAltRow {xs : Nat → Int32} {L : Nat} {al : Bool} (N : Nat) {d : Nat} (hd : 2 ≤ d) {S : St} (hSh : ShR S) {x1 : Int32} {m : Mm} {r0 : Int32} {mf : Mm} (h : f_Mo_isAltRow N x1 m = some (r0, mf)) : Ev xs L al d 204 [.ref 0, .int x1] (m, S) (some (.int r0)) (mf, S) := by
  obtain ⟨d, rfl⟩ : ∃ e, d = e + 1 := ⟨d - 1, by omega⟩
  refine ev_of (by decide) (Nat.le_of_ble_eq_true rfl) ?_
  rw [f_Mo_isAltRow] at h
  show RN xs L al (Ev xs L al d) 204 0 [(0, .ref 0), (1, .int x1)] [] (m, S) (some (.int r0)) (mf, S)
  refine rsn 2 (t := (2, [(0, .ref 0), (1, .int x1)], [.int x1, .ref 0])) rfl ?_
  obtain ⟨r1, m1, g1, h⟩ := b2_some h
  refine rcV 205 0 [.int x1] rfl rfl rfl (hSh.k 0 rfl _) (Nat.le_of_ble_eq_true rfl) rfl (e_Mo_isRow N (by omega) hSh g1) ?_
  show RN xs L al (Ev xs L al d) 204 5 [(0, .ref 0), (1, .int x1)] [.int r1] (m1, S) (some (.int r0)) (mf, S)
  by_cases c2 : r1 = 0
  · rw [if_pos c2] at h
    refine rjf (a := (10, [(0, .ref 0), (1, .int x1)], [])) (b := (8, [(0, .ref 0), (1, .int x1)], [])) rfl rfl (fun q => q c2) ?_
    refine rsn 1 (t := (9, [(0, .ref 0), (1, .int x1)], [.int 0])) rfl ?_
    cases h
    exact rret rfl ⟨rfl, rfl, _, _, rfl, rfl, rfl, rfl⟩
  · rw [if_neg c2] at h
    refine rjt (a := (10, [(0, .ref 0), (1, .int x1)], [])) (b := (8, [(0, .ref 0), (1, .int x1)], [])) rfl rfl c2 ?_
    refine rsn 2 (t := (12, [(2, .int 0), (0, .ref 0), (1, .int x1)], [])) rfl ?_
    have ex12 : ∀ (z7_2 : Int32), (some (1, m1)) = some (r0, mf) → RN xs L al (Ev xs L al d) 204 53 [] [] (m1, S) (some (.int r0)) (mf, S) := by
      intro z7_2 h
      try dsimp only at h
      refine rsn 1 (t := (54, [], [.int 1])) rfl ?_
      cases h
      exact rret rfl ⟨rfl, rfl, _, _, rfl, rfl, rfl, rfl⟩
    have lp12 : ∀ (n : Nat) (y8_2 : Int32), (f_Mo_isAltRow_L12 N m1 (fun (z7_2 : Int32) => some (1, m1)) n y8_2) = some (r0, mf) → RN xs L al (Ev xs L al d) 204 12 [(0, .ref 0), (2, .int y8_2)] [] (m1, S) (some (.int r0)) (mf, S) := by
      intro n
      induction n with
      | zero => intro y8_2 h; exact absurd h (by simp [f_Mo_isAltRow_L12])
      | succ n12 ih12 =>
        intro y8_2 h
        try dsimp only at h
        rw [f_Mo_isAltRow_L12] at h
        try dsimp only at h
        refine rsn 2 (t := (14, [(0, .ref 0), (2, .int y8_2)], [.ref 0, .int y8_2])) rfl ?_
        refine pgI rfl rfl rfl (hSh.k 0 rfl _) ?_
        show RN xs L al (Ev xs L al d) 204 17 [(0, .ref 0), (2, .int y8_2)] [.int ((mI m1 0 18)), .int y8_2] (m1, S) (some (.int r0)) (mf, S)
        refine rsn 1 (t := (18, [(0, .ref 0), (2, .int y8_2)], [.ref 0, .int ((mI m1 0 18)), .int y8_2])) rfl ?_
        refine pgI rfl rfl rfl (hSh.k 0 rfl _) ?_
        show RN xs L al (Ev xs L al d) 204 21 [(0, .ref 0), (2, .int y8_2)] [.int ((mI m1 0 24)), .int ((mI m1 0 18)), .int y8_2] (m1, S) (some (.int r0)) (mf, S)
        refine rsn 1 (t := (22, [(0, .ref 0), (2, .int y8_2)], [.int ((((mI m1 0 18)) - ((mI m1 0 24)))), .int y8_2])) rfl ?_
        by_cases c9 : ((((mI m1 0 18)) - ((mI m1 0 24)))) ≤ y8_2
        · rw [if_pos c9] at h
          refine rjt (a := (53, [(0, .ref 0), (2, .int y8_2)], [])) (b := (25, [(0, .ref 0), (2, .int y8_2)], [])) rfl rfl c9 ?_
          exact rsub [] trivial trivial (ex12 y8_2 h)
        · rw [if_neg c9] at h
          refine rjf (a := (53, [(0, .ref 0), (2, .int y8_2)], [])) (b := (25, [(0, .ref 0), (2, .int y8_2)], [])) rfl rfl c9 ?_
          refine rsn 1 (t := (26, [(0, .ref 0), (2, .int y8_2)], [.ref 0])) rfl ?_
          refine rgR rfl rfl rfl (hSh.k 0 rfl _) (hSh.r 20 rfl _) ?_
          refine rsn 1 (t := (30, [(0, .ref 0), (2, .int y8_2)], [.int y8_2, .ref 21])) rfl ?_
          obtain ⟨c10, h⟩ := ck_some h
          refine pxI rfl (hSh.k 21 rfl _) (hSh.l 20 rfl _) c10 ?_
          show RN xs L al (Ev xs L al d) 204 31 [(0, .ref 0), (2, .int y8_2)] [.int ((mX m1 21 y8_2.toNatClampNeg))] (m1, S) (some (.int r0)) (mf, S)
          refine rsn 1 (t := (32, [(0, .ref 0), (2, .int y8_2)], [.ref 0, .int ((mX m1 21 y8_2.toNatClampNeg))])) rfl ?_
          refine rgR rfl rfl rfl (hSh.k 0 rfl _) (hSh.r 7 rfl _) ?_
          refine rsn 1 (t := (36, [(0, .ref 0), (2, .int y8_2)], [.ref 0, .ref 8, .int ((mX m1 21 y8_2.toNatClampNeg))])) rfl ?_
          refine pgI rfl rfl rfl (hSh.k 0 rfl _) ?_
          show RN xs L al (Ev xs L al d) 204 39 [(0, .ref 0), (2, .int y8_2)] [.int ((mI m1 0 24)), .ref 8, .int ((mX m1 21 y8_2.toNatClampNeg))] (m1, S) (some (.int r0)) (mf, S)
          refine rsn 2 (t := (41, [(0, .ref 0), (2, .int y8_2)], [.int ((((mI m1 0 24)) + y8_2)), .ref 8, .int ((mX m1 21 y8_2.toNatClampNeg))])) rfl ?_
          obtain ⟨c11, h⟩ := ck_some h
          refine pxI rfl (hSh.k 8 rfl _) (hSh.l 7 rfl _) c11 ?_
          show RN xs L al (Ev xs L al d) 204 42 [(0, .ref 0), (2, .int y8_2)] [.int ((mX m1 8 (((((mI m1 0 24)) + y8_2)).toNatClampNeg))), .int ((mX m1 21 y8_2.toNatClampNeg))] (m1, S) (some (.int r0)) (mf, S)
          by_cases c12 : ((mX m1 21 y8_2.toNatClampNeg)) < ((mX m1 8 (((((mI m1 0 24)) + y8_2)).toNatClampNeg)))
          · rw [if_pos c12] at h
            refine rjt (a := (47, [(0, .ref 0), (2, .int y8_2)], [])) (b := (45, [(0, .ref 0), (2, .int y8_2)], [])) rfl rfl c12 ?_
            refine rsn 2 (t := (12, [(2, .int ((y8_2 + 1))), (0, .ref 0)], [])) rfl ?_
            exact rsub [(0, .ref 0), (2, .int ((y8_2 + 1)))] ⟨rfl, ⟨rfl, trivial⟩⟩ ⟨rfl, ⟨rfl, trivial⟩⟩ (ih12 ((y8_2 + 1)) h)
          · rw [if_neg c12] at h
            refine rjf (a := (47, [(0, .ref 0), (2, .int y8_2)], [])) (b := (45, [(0, .ref 0), (2, .int y8_2)], [])) rfl rfl c12 ?_
            refine rsn 1 (t := (46, [(0, .ref 0), (2, .int y8_2)], [.int 0])) rfl ?_
            cases h
            exact rret rfl ⟨rfl, rfl, _, _, rfl, rfl, rfl, rfl⟩
    exact rsub [(0, .ref 0), (2, .int 0)] ⟨rfl, ⟨rfl, trivial⟩⟩ ⟨rfl, ⟨rfl, trivial⟩⟩ (lp12 N 0 h)
def f_Mo_knownBy_L2 (N : Nat) (x1 : Int32) (k2 : Int32 → Mm → Option (Int32 × Mm)) : Nat → Int32 → Mm → Option (Int32 × Mm)
  | 0, _, _ => none
  | n2 + 1, x2, m => (if 524288 ≤ x2 then k2 x2 m else ck (ix x2 524288) (f_Mo_knownBy_L2 N x1 k2 n2 ((x2 + 1)) ((vX m 20 x2.toNatClampNeg 0))))
def f_Mo_knownBy_L146 (N : Nat) (x1 : Int32) (x3 : Int32) (x4 : Int32) (x5 : Int32) (x6 : Int32) (x7 : Int32) (x8 : Int64) (k146 : Int32 → Mm → Option (Int32 × Mm)) : Nat → Int32 → Mm → Option (Int32 × Mm)
  | 0, _, _ => none
  | n146 + 1, x10, m => (if 3 < x10 then k146 x10 m else (if x6 = 0 then b1 (f_Mo_mayGive N x8 x10 ((mI m 0 21))) fun r13 => (if r13 = 0 then f_Mo_knownBy_L146 N x1 x3 x4 x5 x6 x7 x8 k146 n146 ((x10 + 1)) m else b1 (f_Mo_altOf N ((((mI m 0 24)) + x3)) x5 2 m) fun r15 => b1 (f_Mo_one N x10 r15) fun r16 => b3 (f_Mo_lays N ((x8 + r16)) x4 m) fun m17 => f_Mo_knownBy_L146 N x1 x3 x4 x5 x6 x7 x8 k146 n146 ((x10 + 1)) m17) else k146 x10 m))
def f_Mo_knownBy_L84 (N : Nat) (x1 : Int32) (x3 : Int32) (x4 : Int32) (x5 : Int32) (x6 : Int32) (k84 : Int32 → Mm → Option (Int32 × Mm)) : Nat → Int32 → Mm → Option (Int32 × Mm)
  | 0, _, _ => none
  | n84 + 1, x7, m => (if x4 ≤ x7 then k84 x7 m else ck (ix x7 160000) ((jn (fun (m10 : Mm) => f_Mo_knownBy_L146 N x1 x3 x4 x5 x6 x7 ((mYy m 17 x7.toNatClampNeg)) (fun (z18_10 : Int32) (m18 : Mm) => f_Mo_knownBy_L84 N x1 x3 x4 x5 x6 k84 n84 ((x7 + 1)) m18) N 0 m10) (fun j143 => if x6 = 0 then j143 m else (jn (fun (s28 : Int64) => b3 (f_Mo_lays N s28 x4 m) fun m29 => j143 m29) (fun j138 => if x6 = 1 then b1 (f_Mo_altOf N ((((mI m 0 24)) + x3)) x5 2 m) fun r31 => j138 ((((mYy m 17 x7.toNatClampNeg)) ||| ((lsl 1 ((36 + r31)))))) else j138 ((mYy m 17 x7.toNatClampNeg))))))))
def f_Mo_knownBy_L39 (N : Nat) (x1 : Int32) (k39 : Int32 → Int32 → Mm → Option (Int32 × Mm)) : Nat → Int32 → Int32 → Mm → Option (Int32 × Mm)
  | 0, _, _, _ => none
  | n39 + 1, x2, x3, m => (if ((((mI m 0 18)) - ((mI m 0 24)))) ≤ x3 then k39 x2 x3 m else ck (ix x3 6) (b1 (f_Mo_altOf N ((((mI m 0 24)) + x3)) ((mX m 21 x3.toNatClampNeg)) 1 m) fun r7 => f_Mo_knownBy_L84 N x1 x3 ((mI m 0 40)) ((mX m 21 x3.toNatClampNeg)) r7 (fun (z32_7 : Int32) (m32 : Mm) => f_Mo_knownBy_L39 N x1 k39 n39 ((mI m 0 40)) ((x3 + 1)) m32) N x2 m))
def f_Mo_knownBy_L226 (N : Nat) (x1 : Int32) (k226 : Int32 → Int32 → Mm → Option (Int32 × Mm)) : Nat → Int32 → Int32 → Mm → Option (Int32 × Mm)
  | 0, _, _, _ => none
  | n226 + 1, x3, x4, m => (if ((mI m 0 40)) ≤ x4 then k226 x3 x4 m else ck (ix x4 160000) (b2 (f_Mo_ends N ((mYy m 17 x4.toNatClampNeg)) x1 ((mI m 0 22)) m) fun r61 m61 => (if r61 ≤ x3 then f_Mo_knownBy_L226 N x1 k226 n226 x3 ((x4 + 1)) m61 else f_Mo_knownBy_L226 N x1 k226 n226 r61 ((x4 + 1)) m61)))
def f_Mo_knownBy (N : Nat) (x1 : Int32) (m : Mm) : Option (Int32 × Mm) := f_Mo_knownBy_L2 N x1 (fun (z3_2 : Int32) (m3 : Mm) => b3 (f_Mo_lays N ((mJ m3 0 23)) 0 (vI m3 0 40 0)) fun m4 => f_Mo_knownBy_L39 N x1 (fun (z58_2 : Int32) (z58_3 : Int32) (m58 : Mm) => f_Mo_knownBy_L226 N x1 (fun (z63_3 : Int32) (z63_4 : Int32) (m63 : Mm) => some (z63_3, m63)) N ((-2147483648)) z58_2 m58) N 0 0 m4) N 0 m
set_option maxRecDepth 20000 in
set_option maxHeartbeats 4000000 in
theorem e_Mo_knownBy {xs : Nat → Int32} {L : Nat} {al : Bool} (N : Nat) {d : Nat} (hd : 8 ≤ d) {S : St} (hSh : ShR S) {x1 : Int32} {m : Mm} {r0 : Int32} {mf : Mm} (h : f_Mo_knownBy N x1 m = some (r0, mf)) : Ev xs L al d 206 [.ref 0, .int x1] (m, S) (some (.int r0)) (mf, S) := by
  obtain ⟨d, rfl⟩ : ∃ e, d = e + 1 := ⟨d - 1, by omega⟩
  refine ev_of (by decide) (Nat.le_of_ble_eq_true rfl) ?_
  rw [f_Mo_knownBy] at h
  show RN xs L al (Ev xs L al d) 206 0 [(0, .ref 0), (1, .int x1)] [] (m, S) (some (.int r0)) (mf, S)
  refine rsn 2 (t := (2, [(2, .int 0), (0, .ref 0), (1, .int x1)], [])) rfl ?_
  have ex2 : ∀ (z3_2 : Int32) (m3 : Mm), (b3 (f_Mo_lays N ((mJ m3 0 23)) 0 (vI m3 0 40 0)) fun m4 => f_Mo_knownBy_L39 N x1 (fun (z58_2 : Int32) (z58_3 : Int32) (m58 : Mm) => f_Mo_knownBy_L226 N x1 (fun (z63_3 : Int32) (z63_4 : Int32) (m63 : Mm) => some (z63_3, m63)) N ((-2147483648)) z58_2 m58) N 0 0 m4) = some (r0, mf) → RN xs L al (Ev xs L al d) 206 21 [(0, .ref 0), (1, .int x1)] [] (m3, S) (some (.int r0)) (mf, S) := by
    intro z3_2 m3 h
    try dsimp only at h
    refine rsn 2 (t := (23, [(0, .ref 0), (1, .int x1)], [.int 0, .ref 0])) rfl ?_
    refine ppI rfl rfl rfl rfl (hSh.k 0 rfl _) ?_
    refine rsn 2 (t := (28, [(0, .ref 0), (1, .int x1)], [.ref 0, .ref 0])) rfl ?_
    refine pgJ rfl rfl rfl (hSh.k 0 rfl _) ?_
    show RN xs L al (Ev xs L al d) 206 31 [(0, .ref 0), (1, .int x1)] [.long ((mJ m3 0 23)), .ref 0] ((vI m3 0 40 0), S) (some (.int r0)) (mf, S)
    refine rsn 1 (t := (32, [(0, .ref 0), (1, .int x1)], [.int 0, .long ((mJ m3 0 23)), .ref 0])) rfl ?_
    obtain ⟨m4, g4, h⟩ := b3_some h
    refine rcV 195 0 [.long ((mJ m3 0 23)), .int 0] rfl rfl rfl (hSh.k 0 rfl _) (Nat.le_of_ble_eq_true rfl) rfl (e_Mo_lays N (by omega) hSh g4) ?_
    show RN xs L al (Ev xs L al d) 206 35 [(0, .ref 0), (1, .int x1)] [] (m4, S) (some (.int r0)) (mf, S)
    refine rsn 4 (t := (39, [(3, .int 0), (2, .int 0), (0, .ref 0), (1, .int x1)], [])) rfl ?_
    have ex39 : ∀ (z58_2 : Int32) (z58_3 : Int32) (m58 : Mm), (f_Mo_knownBy_L226 N x1 (fun (z63_3 : Int32) (z63_4 : Int32) (m63 : Mm) => some (z63_3, m63)) N ((-2147483648)) z58_2 m58) = some (r0, mf) → RN xs L al (Ev xs L al d) 206 219 [(0, .ref 0), (1, .int x1), (2, .int z58_2)] [] (m58, S) (some (.int r0)) (mf, S) := by
      intro z58_2 z58_3 m58 h
      try dsimp only at h
      refine rsn 4 (t := (226, [(4, .int z58_2), (3, .int ((-2147483648))), (0, .ref 0), (1, .int x1), (2, .int z58_2)], [])) rfl ?_
      have ex226 : ∀ (z63_3 : Int32) (z63_4 : Int32) (m63 : Mm), (some (z63_3, m63)) = some (r0, mf) → RN xs L al (Ev xs L al d) 206 272 [(3, .int z63_3)] [] (m63, S) (some (.int r0)) (mf, S) := by
        intro z63_3 z63_4 m63 h
        try dsimp only at h
        refine rsn 1 (t := (273, [(3, .int z63_3)], [.int z63_3])) rfl ?_
        cases h
        exact rret rfl ⟨rfl, rfl, _, _, rfl, rfl, rfl, rfl⟩
      have lp226 : ∀ (n : Nat) (y64_3 : Int32) (y64_4 : Int32) (m64 : Mm), (f_Mo_knownBy_L226 N x1 (fun (z63_3 : Int32) (z63_4 : Int32) (m63 : Mm) => some (z63_3, m63)) n y64_3 y64_4 m64) = some (r0, mf) → RN xs L al (Ev xs L al d) 206 226 [(0, .ref 0), (1, .int x1), (3, .int y64_3), (4, .int y64_4)] [] (m64, S) (some (.int r0)) (mf, S) := by
        intro n
        induction n with
        | zero => intro y64_3 y64_4 m64 h; exact absurd h (by simp [f_Mo_knownBy_L226])
        | succ n226 ih226 =>
          intro y64_3 y64_4 m64 h
          try dsimp only at h
          rw [f_Mo_knownBy_L226] at h
          try dsimp only at h
          refine rsn 2 (t := (229, [(0, .ref 0), (1, .int x1), (3, .int y64_3), (4, .int y64_4)], [.ref 0, .int y64_4])) rfl ?_
          refine pgI rfl rfl rfl (hSh.k 0 rfl _) ?_
          show RN xs L al (Ev xs L al d) 206 232 [(0, .ref 0), (1, .int x1), (3, .int y64_3), (4, .int y64_4)] [.int ((mI m64 0 40)), .int y64_4] (m64, S) (some (.int r0)) (mf, S)
          by_cases c65 : ((mI m64 0 40)) ≤ y64_4
          · rw [if_pos c65] at h
            refine rjt (a := (272, [(0, .ref 0), (1, .int x1), (3, .int y64_3), (4, .int y64_4)], [])) (b := (235, [(0, .ref 0), (1, .int x1), (3, .int y64_3), (4, .int y64_4)], [])) rfl rfl c65 ?_
            exact rsub [(3, .int y64_3)] ⟨rfl, trivial⟩ ⟨rfl, trivial⟩ (ex226 y64_3 y64_4 m64 h)
          · rw [if_neg c65] at h
            refine rjf (a := (272, [(0, .ref 0), (1, .int x1), (3, .int y64_3), (4, .int y64_4)], [])) (b := (235, [(0, .ref 0), (1, .int x1), (3, .int y64_3), (4, .int y64_4)], [])) rfl rfl c65 ?_
            refine rsn 2 (t := (237, [(0, .ref 0), (1, .int x1), (3, .int y64_3), (4, .int y64_4)], [.ref 0, .ref 0])) rfl ?_
            refine rgR rfl rfl rfl (hSh.k 0 rfl _) (hSh.r 16 rfl _) ?_
            refine rsn 1 (t := (242, [(0, .ref 0), (1, .int x1), (3, .int y64_3), (4, .int y64_4)], [.int y64_4, .ref 17, .ref 0])) rfl ?_
            obtain ⟨c66, h⟩ := ck_some h
            refine pxJ rfl (hSh.k 17 rfl _) (hSh.l 16 rfl _) c66 ?_
            show RN xs L al (Ev xs L al d) 206 243 [(0, .ref 0), (1, .int x1), (3, .int y64_3), (4, .int y64_4)] [.long ((mYy m64 17 y64_4.toNatClampNeg)), .ref 0] (m64, S) (some (.int r0)) (mf, S)
            refine rsn 2 (t := (245, [(0, .ref 0), (1, .int x1), (3, .int y64_3), (4, .int y64_4)], [.ref 0, .int x1, .long ((mYy m64 17 y64_4.toNatClampNeg)), .ref 0])) rfl ?_
            refine pgI rfl rfl rfl (hSh.k 0 rfl _) ?_
            show RN xs L al (Ev xs L al d) 206 248 [(0, .ref 0), (1, .int x1), (3, .int y64_3), (4, .int y64_4)] [.int ((mI m64 0 22)), .int x1, .long ((mYy m64 17 y64_4.toNatClampNeg)), .ref 0] (m64, S) (some (.int r0)) (mf, S)
            obtain ⟨r67, m67, g67, h⟩ := b2_some h
            refine rcV 185 0 [.long ((mYy m64 17 y64_4.toNatClampNeg)), .int x1, .int ((mI m64 0 22))] rfl rfl rfl (hSh.k 0 rfl _) (Nat.le_of_ble_eq_true rfl) rfl (e_Mo_ends N (by omega) hSh g67) ?_
            show RN xs L al (Ev xs L al d) 206 251 [(0, .ref 0), (1, .int x1), (3, .int y64_3), (4, .int y64_4)] [.int r67] (m67, S) (some (.int r0)) (mf, S)
            refine rsn 3 (t := (256, [(5, .int r67), (0, .ref 0), (1, .int x1), (3, .int y64_3), (4, .int y64_4)], [.int y64_3, .int r67])) rfl ?_
            by_cases c68 : r67 ≤ y64_3
            · rw [if_pos c68] at h
              refine rjt (a := (264, [(5, .int r67), (0, .ref 0), (1, .int x1), (3, .int y64_3), (4, .int y64_4)], [])) (b := (259, [(5, .int r67), (0, .ref 0), (1, .int x1), (3, .int y64_3), (4, .int y64_4)], [])) rfl rfl c68 ?_
              refine rsn 4 (t := (226, [(4, .int ((y64_4 + 1))), (3, .int y64_3), (5, .int r67), (0, .ref 0), (1, .int x1)], [])) rfl ?_
              exact rsub [(0, .ref 0), (1, .int x1), (3, .int y64_3), (4, .int ((y64_4 + 1)))] ⟨rfl, ⟨rfl, ⟨rfl, ⟨rfl, trivial⟩⟩⟩⟩ ⟨rfl, ⟨rfl, ⟨rfl, ⟨rfl, trivial⟩⟩⟩⟩ (ih226 y64_3 ((y64_4 + 1)) m67 h)
            · rw [if_neg c68] at h
              refine rjf (a := (264, [(5, .int r67), (0, .ref 0), (1, .int x1), (3, .int y64_3), (4, .int y64_4)], [])) (b := (259, [(5, .int r67), (0, .ref 0), (1, .int x1), (3, .int y64_3), (4, .int y64_4)], [])) rfl rfl c68 ?_
              refine rsn 5 (t := (226, [(4, .int ((y64_4 + 1))), (3, .int r67), (5, .int r67), (0, .ref 0), (1, .int x1)], [])) rfl ?_
              exact rsub [(0, .ref 0), (1, .int x1), (3, .int r67), (4, .int ((y64_4 + 1)))] ⟨rfl, ⟨rfl, ⟨rfl, ⟨rfl, trivial⟩⟩⟩⟩ ⟨rfl, ⟨rfl, ⟨rfl, ⟨rfl, trivial⟩⟩⟩⟩ (ih226 r67 ((y64_4 + 1)) m67 h)
      exact rsub [(0, .ref 0), (1, .int x1), (3, .int ((-2147483648))), (4, .int z58_2)] ⟨rfl, ⟨rfl, ⟨rfl, ⟨rfl, trivial⟩⟩⟩⟩ ⟨rfl, ⟨rfl, ⟨rfl, ⟨rfl, trivial⟩⟩⟩⟩ (lp226 N ((-2147483648)) z58_2 m58 h)
    have lp39 : ∀ (n : Nat) (y69_2 : Int32) (y69_3 : Int32) (m69 : Mm), (f_Mo_knownBy_L39 N x1 (fun (z58_2 : Int32) (z58_3 : Int32) (m58 : Mm) => f_Mo_knownBy_L226 N x1 (fun (z63_3 : Int32) (z63_4 : Int32) (m63 : Mm) => some (z63_3, m63)) N ((-2147483648)) z58_2 m58) n y69_2 y69_3 m69) = some (r0, mf) → RN xs L al (Ev xs L al d) 206 39 [(0, .ref 0), (1, .int x1), (2, .int y69_2), (3, .int y69_3)] [] (m69, S) (some (.int r0)) (mf, S) := by
      intro n
      induction n with
      | zero => intro y69_2 y69_3 m69 h; exact absurd h (by simp [f_Mo_knownBy_L39])
      | succ n39 ih39 =>
        intro y69_2 y69_3 m69 h
        try dsimp only at h
        rw [f_Mo_knownBy_L39] at h
        try dsimp only at h
        refine rsn 2 (t := (41, [(0, .ref 0), (1, .int x1), (2, .int y69_2), (3, .int y69_3)], [.ref 0, .int y69_3])) rfl ?_
        refine pgI rfl rfl rfl (hSh.k 0 rfl _) ?_
        show RN xs L al (Ev xs L al d) 206 44 [(0, .ref 0), (1, .int x1), (2, .int y69_2), (3, .int y69_3)] [.int ((mI m69 0 18)), .int y69_3] (m69, S) (some (.int r0)) (mf, S)
        refine rsn 1 (t := (45, [(0, .ref 0), (1, .int x1), (2, .int y69_2), (3, .int y69_3)], [.ref 0, .int ((mI m69 0 18)), .int y69_3])) rfl ?_
        refine pgI rfl rfl rfl (hSh.k 0 rfl _) ?_
        show RN xs L al (Ev xs L al d) 206 48 [(0, .ref 0), (1, .int x1), (2, .int y69_2), (3, .int y69_3)] [.int ((mI m69 0 24)), .int ((mI m69 0 18)), .int y69_3] (m69, S) (some (.int r0)) (mf, S)
        refine rsn 1 (t := (49, [(0, .ref 0), (1, .int x1), (2, .int y69_2), (3, .int y69_3)], [.int ((((mI m69 0 18)) - ((mI m69 0 24)))), .int y69_3])) rfl ?_
        by_cases c70 : ((((mI m69 0 18)) - ((mI m69 0 24)))) ≤ y69_3
        · rw [if_pos c70] at h
          refine rjt (a := (219, [(0, .ref 0), (1, .int x1), (2, .int y69_2), (3, .int y69_3)], [])) (b := (52, [(0, .ref 0), (1, .int x1), (2, .int y69_2), (3, .int y69_3)], [])) rfl rfl c70 ?_
          exact rsub [(0, .ref 0), (1, .int x1), (2, .int y69_2)] ⟨rfl, ⟨rfl, ⟨rfl, trivial⟩⟩⟩ ⟨rfl, ⟨rfl, ⟨rfl, trivial⟩⟩⟩ (ex39 y69_2 y69_3 m69 h)
        · rw [if_neg c70] at h
          refine rjf (a := (219, [(0, .ref 0), (1, .int x1), (2, .int y69_2), (3, .int y69_3)], [])) (b := (52, [(0, .ref 0), (1, .int x1), (2, .int y69_2), (3, .int y69_3)], [])) rfl rfl c70 ?_
          refine rsn 1 (t := (53, [(0, .ref 0), (1, .int x1), (2, .int y69_2), (3, .int y69_3)], [.ref 0])) rfl ?_
          refine pgI rfl rfl rfl (hSh.k 0 rfl _) ?_
          show RN xs L al (Ev xs L al d) 206 56 [(0, .ref 0), (1, .int x1), (2, .int y69_2), (3, .int y69_3)] [.int ((mI m69 0 40))] (m69, S) (some (.int r0)) (mf, S)
          refine rsn 2 (t := (59, [(4, .int ((mI m69 0 40))), (0, .ref 0), (1, .int x1), (2, .int y69_2), (3, .int y69_3)], [.ref 0])) rfl ?_
          refine rgR rfl rfl rfl (hSh.k 0 rfl _) (hSh.r 20 rfl _) ?_
          refine rsn 1 (t := (63, [(4, .int ((mI m69 0 40))), (0, .ref 0), (1, .int x1), (2, .int y69_2), (3, .int y69_3)], [.int y69_3, .ref 21])) rfl ?_
          obtain ⟨c71, h⟩ := ck_some h
          refine pxI rfl (hSh.k 21 rfl _) (hSh.l 20 rfl _) c71 ?_
          show RN xs L al (Ev xs L al d) 206 64 [(4, .int ((mI m69 0 40))), (0, .ref 0), (1, .int x1), (2, .int y69_2), (3, .int y69_3)] [.int ((mX m69 21 y69_3.toNatClampNeg))] (m69, S) (some (.int r0)) (mf, S)
          refine rsn 3 (t := (68, [(5, .int ((mX m69 21 y69_3.toNatClampNeg))), (4, .int ((mI m69 0 40))), (0, .ref 0), (1, .int x1), (2, .int y69_2), (3, .int y69_3)], [.ref 0, .ref 0])) rfl ?_
          refine pgI rfl rfl rfl (hSh.k 0 rfl _) ?_
          show RN xs L al (Ev xs L al d) 206 71 [(5, .int ((mX m69 21 y69_3.toNatClampNeg))), (4, .int ((mI m69 0 40))), (0, .ref 0), (1, .int x1), (2, .int y69_2), (3, .int y69_3)] [.int ((mI m69 0 24)), .ref 0] (m69, S) (some (.int r0)) (mf, S)
          refine rsn 4 (t := (76, [(5, .int ((mX m69 21 y69_3.toNatClampNeg))), (4, .int ((mI m69 0 40))), (0, .ref 0), (1, .int x1), (2, .int y69_2), (3, .int y69_3)], [.int 1, .int ((mX m69 21 y69_3.toNatClampNeg)), .int ((((mI m69 0 24)) + y69_3)), .ref 0])) rfl ?_
          obtain ⟨r72, g72, h⟩ := b1_some h
          refine rcV 177 0 [.int ((((mI m69 0 24)) + y69_3)), .int ((mX m69 21 y69_3.toNatClampNeg)), .int 1] rfl rfl rfl (hSh.k 0 rfl _) (Nat.le_of_ble_eq_true rfl) rfl (e_Mo_altOf N (by omega) hSh g72) ?_
          show RN xs L al (Ev xs L al d) 206 79 [(5, .int ((mX m69 21 y69_3.toNatClampNeg))), (4, .int ((mI m69 0 40))), (0, .ref 0), (1, .int x1), (2, .int y69_2), (3, .int y69_3)] [.int r72] (m69, S) (some (.int r0)) (mf, S)
          refine rsn 3 (t := (84, [(7, .int y69_2), (6, .int r72), (5, .int ((mX m69 21 y69_3.toNatClampNeg))), (4, .int ((mI m69 0 40))), (0, .ref 0), (1, .int x1), (2, .int y69_2), (3, .int y69_3)], [])) rfl ?_
          have ex84 : ∀ (z97_7 : Int32) (m97 : Mm), (f_Mo_knownBy_L39 N x1 (fun (z58_2 : Int32) (z58_3 : Int32) (m58 : Mm) => f_Mo_knownBy_L226 N x1 (fun (z63_3 : Int32) (z63_4 : Int32) (m63 : Mm) => some (z63_3, m63)) N ((-2147483648)) z58_2 m58) n39 ((mI m69 0 40)) ((y69_3 + 1)) m97) = some (r0, mf) → RN xs L al (Ev xs L al d) 206 210 [(0, .ref 0), (1, .int x1), (3, .int y69_3), (4, .int ((mI m69 0 40)))] [] (m97, S) (some (.int r0)) (mf, S) := by
            intro z97_7 m97 h
            try dsimp only at h
            refine rsn 4 (t := (39, [(3, .int ((y69_3 + 1))), (2, .int ((mI m69 0 40))), (0, .ref 0), (1, .int x1), (4, .int ((mI m69 0 40)))], [])) rfl ?_
            exact rsub [(0, .ref 0), (1, .int x1), (2, .int ((mI m69 0 40))), (3, .int ((y69_3 + 1)))] ⟨rfl, ⟨rfl, ⟨rfl, ⟨rfl, trivial⟩⟩⟩⟩ ⟨rfl, ⟨rfl, ⟨rfl, ⟨rfl, trivial⟩⟩⟩⟩ (ih39 ((mI m69 0 40)) ((y69_3 + 1)) m97 h)
          have lp84 : ∀ (n : Nat) (y98_7 : Int32) (m98 : Mm), (f_Mo_knownBy_L84 N x1 y69_3 ((mI m69 0 40)) ((mX m69 21 y69_3.toNatClampNeg)) r72 (fun (z97_7 : Int32) (m97 : Mm) => f_Mo_knownBy_L39 N x1 (fun (z58_2 : Int32) (z58_3 : Int32) (m58 : Mm) => f_Mo_knownBy_L226 N x1 (fun (z63_3 : Int32) (z63_4 : Int32) (m63 : Mm) => some (z63_3, m63)) N ((-2147483648)) z58_2 m58) n39 ((mI m69 0 40)) ((y69_3 + 1)) m97) n y98_7 m98) = some (r0, mf) → RN xs L al (Ev xs L al d) 206 84 [(0, .ref 0), (1, .int x1), (3, .int y69_3), (4, .int ((mI m69 0 40))), (5, .int ((mX m69 21 y69_3.toNatClampNeg))), (6, .int r72), (7, .int y98_7)] [] (m98, S) (some (.int r0)) (mf, S) := by
            intro n
            induction n with
            | zero => intro y98_7 m98 h; exact absurd h (by simp [f_Mo_knownBy_L84])
            | succ n84 ih84 =>
              intro y98_7 m98 h
              try dsimp only at h
              rw [f_Mo_knownBy_L84] at h
              try dsimp only at h
              refine rsn 2 (t := (88, [(0, .ref 0), (1, .int x1), (3, .int y69_3), (4, .int ((mI m69 0 40))), (5, .int ((mX m69 21 y69_3.toNatClampNeg))), (6, .int r72), (7, .int y98_7)], [.int ((mI m69 0 40)), .int y98_7])) rfl ?_
              by_cases c99 : ((mI m69 0 40)) ≤ y98_7
              · rw [if_pos c99] at h
                refine rjt (a := (210, [(0, .ref 0), (1, .int x1), (3, .int y69_3), (4, .int ((mI m69 0 40))), (5, .int ((mX m69 21 y69_3.toNatClampNeg))), (6, .int r72), (7, .int y98_7)], [])) (b := (91, [(0, .ref 0), (1, .int x1), (3, .int y69_3), (4, .int ((mI m69 0 40))), (5, .int ((mX m69 21 y69_3.toNatClampNeg))), (6, .int r72), (7, .int y98_7)], [])) rfl rfl c99 ?_
                exact rsub [(0, .ref 0), (1, .int x1), (3, .int y69_3), (4, .int ((mI m69 0 40)))] ⟨rfl, ⟨rfl, ⟨rfl, ⟨rfl, trivial⟩⟩⟩⟩ ⟨rfl, ⟨rfl, ⟨rfl, ⟨rfl, trivial⟩⟩⟩⟩ (ex84 y98_7 m98 h)
              · rw [if_neg c99] at h
                refine rjf (a := (210, [(0, .ref 0), (1, .int x1), (3, .int y69_3), (4, .int ((mI m69 0 40))), (5, .int ((mX m69 21 y69_3.toNatClampNeg))), (6, .int r72), (7, .int y98_7)], [])) (b := (91, [(0, .ref 0), (1, .int x1), (3, .int y69_3), (4, .int ((mI m69 0 40))), (5, .int ((mX m69 21 y69_3.toNatClampNeg))), (6, .int r72), (7, .int y98_7)], [])) rfl rfl c99 ?_
                refine rsn 1 (t := (92, [(0, .ref 0), (1, .int x1), (3, .int y69_3), (4, .int ((mI m69 0 40))), (5, .int ((mX m69 21 y69_3.toNatClampNeg))), (6, .int r72), (7, .int y98_7)], [.ref 0])) rfl ?_
                refine rgR rfl rfl rfl (hSh.k 0 rfl _) (hSh.r 16 rfl _) ?_
                refine rsn 1 (t := (97, [(0, .ref 0), (1, .int x1), (3, .int y69_3), (4, .int ((mI m69 0 40))), (5, .int ((mX m69 21 y69_3.toNatClampNeg))), (6, .int r72), (7, .int y98_7)], [.int y98_7, .ref 17])) rfl ?_
                obtain ⟨c100, h⟩ := ck_some h
                refine pxJ rfl (hSh.k 17 rfl _) (hSh.l 16 rfl _) c100 ?_
                show RN xs L al (Ev xs L al d) 206 98 [(0, .ref 0), (1, .int x1), (3, .int y69_3), (4, .int ((mI m69 0 40))), (5, .int ((mX m69 21 y69_3.toNatClampNeg))), (6, .int r72), (7, .int y98_7)] [.long ((mYy m98 17 y98_7.toNatClampNeg))] (m98, S) (some (.int r0)) (mf, S)
                refine rsn 2 (t := (102, [(8, .long ((mYy m98 17 y98_7.toNatClampNeg))), (0, .ref 0), (1, .int x1), (3, .int y69_3), (4, .int ((mI m69 0 40))), (5, .int ((mX m69 21 y69_3.toNatClampNeg))), (6, .int r72), (7, .int y98_7)], [.int r72])) rfl ?_
                have jp143 : ∀ (m101 : Mm), (f_Mo_knownBy_L146 N x1 y69_3 ((mI m69 0 40)) ((mX m69 21 y69_3.toNatClampNeg)) r72 y98_7 ((mYy m98 17 y98_7.toNatClampNeg)) (fun (z109_10 : Int32) (m109 : Mm) => f_Mo_knownBy_L84 N x1 y69_3 ((mI m69 0 40)) ((mX m69 21 y69_3.toNatClampNeg)) r72 (fun (z97_7 : Int32) (m97 : Mm) => f_Mo_knownBy_L39 N x1 (fun (z58_2 : Int32) (z58_3 : Int32) (m58 : Mm) => f_Mo_knownBy_L226 N x1 (fun (z63_3 : Int32) (z63_4 : Int32) (m63 : Mm) => some (z63_3, m63)) N ((-2147483648)) z58_2 m58) n39 ((mI m69 0 40)) ((y69_3 + 1)) m97) n84 ((y98_7 + 1)) m109) N 0 m101) = some (r0, mf) → RN xs L al (Ev xs L al d) 206 143 [(0, .ref 0), (1, .int x1), (3, .int y69_3), (4, .int ((mI m69 0 40))), (5, .int ((mX m69 21 y69_3.toNatClampNeg))), (6, .int r72), (7, .int y98_7), (8, .long ((mYy m98 17 y98_7.toNatClampNeg)))] [] (m101, S) (some (.int r0)) (mf, S) := by
                  intro m101 h
                  try dsimp only at h
                  refine rsn 2 (t := (146, [(10, .int 0), (0, .ref 0), (1, .int x1), (3, .int y69_3), (4, .int ((mI m69 0 40))), (5, .int ((mX m69 21 y69_3.toNatClampNeg))), (6, .int r72), (7, .int y98_7), (8, .long ((mYy m98 17 y98_7.toNatClampNeg)))], [])) rfl ?_
                  have ex146 : ∀ (z109_10 : Int32) (m109 : Mm), (f_Mo_knownBy_L84 N x1 y69_3 ((mI m69 0 40)) ((mX m69 21 y69_3.toNatClampNeg)) r72 (fun (z97_7 : Int32) (m97 : Mm) => f_Mo_knownBy_L39 N x1 (fun (z58_2 : Int32) (z58_3 : Int32) (m58 : Mm) => f_Mo_knownBy_L226 N x1 (fun (z63_3 : Int32) (z63_4 : Int32) (m63 : Mm) => some (z63_3, m63)) N ((-2147483648)) z58_2 m58) n39 ((mI m69 0 40)) ((y69_3 + 1)) m97) n84 ((y98_7 + 1)) m109) = some (r0, mf) → RN xs L al (Ev xs L al d) 206 204 [(0, .ref 0), (1, .int x1), (3, .int y69_3), (4, .int ((mI m69 0 40))), (5, .int ((mX m69 21 y69_3.toNatClampNeg))), (6, .int r72), (7, .int y98_7)] [] (m109, S) (some (.int r0)) (mf, S) := by
                    intro z109_10 m109 h
                    try dsimp only at h
                    refine rsn 2 (t := (84, [(7, .int ((y98_7 + 1))), (0, .ref 0), (1, .int x1), (3, .int y69_3), (4, .int ((mI m69 0 40))), (5, .int ((mX m69 21 y69_3.toNatClampNeg))), (6, .int r72)], [])) rfl ?_
                    exact rsub [(0, .ref 0), (1, .int x1), (3, .int y69_3), (4, .int ((mI m69 0 40))), (5, .int ((mX m69 21 y69_3.toNatClampNeg))), (6, .int r72), (7, .int ((y98_7 + 1)))] ⟨rfl, ⟨rfl, ⟨rfl, ⟨rfl, ⟨rfl, ⟨rfl, ⟨rfl, trivial⟩⟩⟩⟩⟩⟩⟩ ⟨rfl, ⟨rfl, ⟨rfl, ⟨rfl, ⟨rfl, ⟨rfl, ⟨rfl, trivial⟩⟩⟩⟩⟩⟩⟩ (ih84 ((y98_7 + 1)) m109 h)
                  have lp146 : ∀ (n : Nat) (y110_10 : Int32) (m110 : Mm), (f_Mo_knownBy_L146 N x1 y69_3 ((mI m69 0 40)) ((mX m69 21 y69_3.toNatClampNeg)) r72 y98_7 ((mYy m98 17 y98_7.toNatClampNeg)) (fun (z109_10 : Int32) (m109 : Mm) => f_Mo_knownBy_L84 N x1 y69_3 ((mI m69 0 40)) ((mX m69 21 y69_3.toNatClampNeg)) r72 (fun (z97_7 : Int32) (m97 : Mm) => f_Mo_knownBy_L39 N x1 (fun (z58_2 : Int32) (z58_3 : Int32) (m58 : Mm) => f_Mo_knownBy_L226 N x1 (fun (z63_3 : Int32) (z63_4 : Int32) (m63 : Mm) => some (z63_3, m63)) N ((-2147483648)) z58_2 m58) n39 ((mI m69 0 40)) ((y69_3 + 1)) m97) n84 ((y98_7 + 1)) m109) n y110_10 m110) = some (r0, mf) → RN xs L al (Ev xs L al d) 206 146 [(0, .ref 0), (1, .int x1), (3, .int y69_3), (4, .int ((mI m69 0 40))), (5, .int ((mX m69 21 y69_3.toNatClampNeg))), (6, .int r72), (7, .int y98_7), (8, .long ((mYy m98 17 y98_7.toNatClampNeg))), (10, .int y110_10)] [] (m110, S) (some (.int r0)) (mf, S) := by
                    intro n
                    induction n with
                    | zero => intro y110_10 m110 h; exact absurd h (by simp [f_Mo_knownBy_L146])
                    | succ n146 ih146 =>
                      intro y110_10 m110 h
                      try dsimp only at h
                      rw [f_Mo_knownBy_L146] at h
                      try dsimp only at h
                      refine rsn 2 (t := (149, [(0, .ref 0), (1, .int x1), (3, .int y69_3), (4, .int ((mI m69 0 40))), (5, .int ((mX m69 21 y69_3.toNatClampNeg))), (6, .int r72), (7, .int y98_7), (8, .long ((mYy m98 17 y98_7.toNatClampNeg))), (10, .int y110_10)], [.int 3, .int y110_10])) rfl ?_
                      by_cases c111 : 3 < y110_10
                      · rw [if_pos c111] at h
                        refine rjt (a := (204, [(0, .ref 0), (1, .int x1), (3, .int y69_3), (4, .int ((mI m69 0 40))), (5, .int ((mX m69 21 y69_3.toNatClampNeg))), (6, .int r72), (7, .int y98_7), (8, .long ((mYy m98 17 y98_7.toNatClampNeg))), (10, .int y110_10)], [])) (b := (152, [(0, .ref 0), (1, .int x1), (3, .int y69_3), (4, .int ((mI m69 0 40))), (5, .int ((mX m69 21 y69_3.toNatClampNeg))), (6, .int r72), (7, .int y98_7), (8, .long ((mYy m98 17 y98_7.toNatClampNeg))), (10, .int y110_10)], [])) rfl rfl c111 ?_
                        exact rsub [(0, .ref 0), (1, .int x1), (3, .int y69_3), (4, .int ((mI m69 0 40))), (5, .int ((mX m69 21 y69_3.toNatClampNeg))), (6, .int r72), (7, .int y98_7)] ⟨rfl, ⟨rfl, ⟨rfl, ⟨rfl, ⟨rfl, ⟨rfl, ⟨rfl, trivial⟩⟩⟩⟩⟩⟩⟩ ⟨rfl, ⟨rfl, ⟨rfl, ⟨rfl, ⟨rfl, ⟨rfl, ⟨rfl, trivial⟩⟩⟩⟩⟩⟩⟩ (ex146 y110_10 m110 h)
                      · rw [if_neg c111] at h
                        refine rjf (a := (204, [(0, .ref 0), (1, .int x1), (3, .int y69_3), (4, .int ((mI m69 0 40))), (5, .int ((mX m69 21 y69_3.toNatClampNeg))), (6, .int r72), (7, .int y98_7), (8, .long ((mYy m98 17 y98_7.toNatClampNeg))), (10, .int y110_10)], [])) (b := (152, [(0, .ref 0), (1, .int x1), (3, .int y69_3), (4, .int ((mI m69 0 40))), (5, .int ((mX m69 21 y69_3.toNatClampNeg))), (6, .int r72), (7, .int y98_7), (8, .long ((mYy m98 17 y98_7.toNatClampNeg))), (10, .int y110_10)], [])) rfl rfl c111 ?_
                        refine rsn 1 (t := (154, [(0, .ref 0), (1, .int x1), (3, .int y69_3), (4, .int ((mI m69 0 40))), (5, .int ((mX m69 21 y69_3.toNatClampNeg))), (6, .int r72), (7, .int y98_7), (8, .long ((mYy m98 17 y98_7.toNatClampNeg))), (10, .int y110_10)], [.int r72])) rfl ?_
                        by_cases c112 : r72 = 0
                        · rw [if_pos c112] at h
                          refine rjf (a := (204, [(0, .ref 0), (1, .int x1), (3, .int y69_3), (4, .int ((mI m69 0 40))), (5, .int ((mX m69 21 y69_3.toNatClampNeg))), (6, .int r72), (7, .int y98_7), (8, .long ((mYy m98 17 y98_7.toNatClampNeg))), (10, .int y110_10)], [])) (b := (157, [(0, .ref 0), (1, .int x1), (3, .int y69_3), (4, .int ((mI m69 0 40))), (5, .int ((mX m69 21 y69_3.toNatClampNeg))), (6, .int r72), (7, .int y98_7), (8, .long ((mYy m98 17 y98_7.toNatClampNeg))), (10, .int y110_10)], [])) rfl rfl (fun q => q c112) ?_
                          refine rsn 3 (t := (162, [(0, .ref 0), (1, .int x1), (3, .int y69_3), (4, .int ((mI m69 0 40))), (5, .int ((mX m69 21 y69_3.toNatClampNeg))), (6, .int r72), (7, .int y98_7), (8, .long ((mYy m98 17 y98_7.toNatClampNeg))), (10, .int y110_10)], [.ref 0, .int y110_10, .long ((mYy m98 17 y98_7.toNatClampNeg))])) rfl ?_
                          refine pgI rfl rfl rfl (hSh.k 0 rfl _) ?_
                          show RN xs L al (Ev xs L al d) 206 165 [(0, .ref 0), (1, .int x1), (3, .int y69_3), (4, .int ((mI m69 0 40))), (5, .int ((mX m69 21 y69_3.toNatClampNeg))), (6, .int r72), (7, .int y98_7), (8, .long ((mYy m98 17 y98_7.toNatClampNeg))), (10, .int y110_10)] [.int ((mI m110 0 21)), .int y110_10, .long ((mYy m98 17 y98_7.toNatClampNeg))] (m110, S) (some (.int r0)) (mf, S)
                          obtain ⟨r113, g113, h⟩ := b1_some h
                          refine rcS 180 [.long ((mYy m98 17 y98_7.toNatClampNeg)), .int y110_10, .int ((mI m110 0 21))] rfl rfl rfl (Nat.le_of_ble_eq_true rfl) rfl (e_Mo_mayGive N (by omega) g113) ?_
                          show RN xs L al (Ev xs L al d) 206 168 [(0, .ref 0), (1, .int x1), (3, .int y69_3), (4, .int ((mI m69 0 40))), (5, .int ((mX m69 21 y69_3.toNatClampNeg))), (6, .int r72), (7, .int y98_7), (8, .long ((mYy m98 17 y98_7.toNatClampNeg))), (10, .int y110_10)] [.int r113] (m110, S) (some (.int r0)) (mf, S)
                          by_cases c114 : r113 = 0
                          · rw [if_pos c114] at h
                            refine rjt (a := (198, [(0, .ref 0), (1, .int x1), (3, .int y69_3), (4, .int ((mI m69 0 40))), (5, .int ((mX m69 21 y69_3.toNatClampNeg))), (6, .int r72), (7, .int y98_7), (8, .long ((mYy m98 17 y98_7.toNatClampNeg))), (10, .int y110_10)], [])) (b := (171, [(0, .ref 0), (1, .int x1), (3, .int y69_3), (4, .int ((mI m69 0 40))), (5, .int ((mX m69 21 y69_3.toNatClampNeg))), (6, .int r72), (7, .int y98_7), (8, .long ((mYy m98 17 y98_7.toNatClampNeg))), (10, .int y110_10)], [])) rfl rfl c114 ?_
                            refine rsn 2 (t := (146, [(10, .int ((y110_10 + 1))), (0, .ref 0), (1, .int x1), (3, .int y69_3), (4, .int ((mI m69 0 40))), (5, .int ((mX m69 21 y69_3.toNatClampNeg))), (6, .int r72), (7, .int y98_7), (8, .long ((mYy m98 17 y98_7.toNatClampNeg)))], [])) rfl ?_
                            exact rsub [(0, .ref 0), (1, .int x1), (3, .int y69_3), (4, .int ((mI m69 0 40))), (5, .int ((mX m69 21 y69_3.toNatClampNeg))), (6, .int r72), (7, .int y98_7), (8, .long ((mYy m98 17 y98_7.toNatClampNeg))), (10, .int ((y110_10 + 1)))] ⟨rfl, ⟨rfl, ⟨rfl, ⟨rfl, ⟨rfl, ⟨rfl, ⟨rfl, ⟨rfl, ⟨rfl, trivial⟩⟩⟩⟩⟩⟩⟩⟩⟩ ⟨rfl, ⟨rfl, ⟨rfl, ⟨rfl, ⟨rfl, ⟨rfl, ⟨rfl, ⟨rfl, ⟨rfl, trivial⟩⟩⟩⟩⟩⟩⟩⟩⟩ (ih146 ((y110_10 + 1)) m110 h)
                          · rw [if_neg c114] at h
                            refine rjf (a := (198, [(0, .ref 0), (1, .int x1), (3, .int y69_3), (4, .int ((mI m69 0 40))), (5, .int ((mX m69 21 y69_3.toNatClampNeg))), (6, .int r72), (7, .int y98_7), (8, .long ((mYy m98 17 y98_7.toNatClampNeg))), (10, .int y110_10)], [])) (b := (171, [(0, .ref 0), (1, .int x1), (3, .int y69_3), (4, .int ((mI m69 0 40))), (5, .int ((mX m69 21 y69_3.toNatClampNeg))), (6, .int r72), (7, .int y98_7), (8, .long ((mYy m98 17 y98_7.toNatClampNeg))), (10, .int y110_10)], [])) rfl rfl c114 ?_
                            refine rsn 5 (t := (178, [(0, .ref 0), (1, .int x1), (3, .int y69_3), (4, .int ((mI m69 0 40))), (5, .int ((mX m69 21 y69_3.toNatClampNeg))), (6, .int r72), (7, .int y98_7), (8, .long ((mYy m98 17 y98_7.toNatClampNeg))), (10, .int y110_10)], [.ref 0, .ref 0, .int y110_10, .long ((mYy m98 17 y98_7.toNatClampNeg)), .ref 0])) rfl ?_
                            refine pgI rfl rfl rfl (hSh.k 0 rfl _) ?_
                            show RN xs L al (Ev xs L al d) 206 181 [(0, .ref 0), (1, .int x1), (3, .int y69_3), (4, .int ((mI m69 0 40))), (5, .int ((mX m69 21 y69_3.toNatClampNeg))), (6, .int r72), (7, .int y98_7), (8, .long ((mYy m98 17 y98_7.toNatClampNeg))), (10, .int y110_10)] [.int ((mI m110 0 24)), .ref 0, .int y110_10, .long ((mYy m98 17 y98_7.toNatClampNeg)), .ref 0] (m110, S) (some (.int r0)) (mf, S)
                            refine rsn 4 (t := (186, [(0, .ref 0), (1, .int x1), (3, .int y69_3), (4, .int ((mI m69 0 40))), (5, .int ((mX m69 21 y69_3.toNatClampNeg))), (6, .int r72), (7, .int y98_7), (8, .long ((mYy m98 17 y98_7.toNatClampNeg))), (10, .int y110_10)], [.int 2, .int ((mX m69 21 y69_3.toNatClampNeg)), .int ((((mI m110 0 24)) + y69_3)), .ref 0, .int y110_10, .long ((mYy m98 17 y98_7.toNatClampNeg)), .ref 0])) rfl ?_
                            obtain ⟨r115, g115, h⟩ := b1_some h
                            refine rcV 177 0 [.int ((((mI m110 0 24)) + y69_3)), .int ((mX m69 21 y69_3.toNatClampNeg)), .int 2] rfl rfl rfl (hSh.k 0 rfl _) (Nat.le_of_ble_eq_true rfl) rfl (e_Mo_altOf N (by omega) hSh g115) ?_
                            show RN xs L al (Ev xs L al d) 206 189 [(0, .ref 0), (1, .int x1), (3, .int y69_3), (4, .int ((mI m69 0 40))), (5, .int ((mX m69 21 y69_3.toNatClampNeg))), (6, .int r72), (7, .int y98_7), (8, .long ((mYy m98 17 y98_7.toNatClampNeg))), (10, .int y110_10)] [.int r115, .int y110_10, .long ((mYy m98 17 y98_7.toNatClampNeg)), .ref 0] (m110, S) (some (.int r0)) (mf, S)
                            obtain ⟨r116, g116, h⟩ := b1_some h
                            refine rcS 182 [.int y110_10, .int r115] rfl rfl rfl (Nat.le_of_ble_eq_true rfl) rfl (e_Mo_one N (by omega) g116) ?_
                            show RN xs L al (Ev xs L al d) 206 192 [(0, .ref 0), (1, .int x1), (3, .int y69_3), (4, .int ((mI m69 0 40))), (5, .int ((mX m69 21 y69_3.toNatClampNeg))), (6, .int r72), (7, .int y98_7), (8, .long ((mYy m98 17 y98_7.toNatClampNeg))), (10, .int y110_10)] [.long r116, .long ((mYy m98 17 y98_7.toNatClampNeg)), .ref 0] (m110, S) (some (.int r0)) (mf, S)
                            refine rsn 2 (t := (195, [(0, .ref 0), (1, .int x1), (3, .int y69_3), (4, .int ((mI m69 0 40))), (5, .int ((mX m69 21 y69_3.toNatClampNeg))), (6, .int r72), (7, .int y98_7), (8, .long ((mYy m98 17 y98_7.toNatClampNeg))), (10, .int y110_10)], [.int ((mI m69 0 40)), .long ((((mYy m98 17 y98_7.toNatClampNeg)) + r116)), .ref 0])) rfl ?_
                            obtain ⟨m117, g117, h⟩ := b3_some h
                            refine rcV 195 0 [.long ((((mYy m98 17 y98_7.toNatClampNeg)) + r116)), .int ((mI m69 0 40))] rfl rfl rfl (hSh.k 0 rfl _) (Nat.le_of_ble_eq_true rfl) rfl (e_Mo_lays N (by omega) hSh g117) ?_
                            show RN xs L al (Ev xs L al d) 206 198 [(0, .ref 0), (1, .int x1), (3, .int y69_3), (4, .int ((mI m69 0 40))), (5, .int ((mX m69 21 y69_3.toNatClampNeg))), (6, .int r72), (7, .int y98_7), (8, .long ((mYy m98 17 y98_7.toNatClampNeg))), (10, .int y110_10)] [] (m117, S) (some (.int r0)) (mf, S)
                            refine rsn 2 (t := (146, [(10, .int ((y110_10 + 1))), (0, .ref 0), (1, .int x1), (3, .int y69_3), (4, .int ((mI m69 0 40))), (5, .int ((mX m69 21 y69_3.toNatClampNeg))), (6, .int r72), (7, .int y98_7), (8, .long ((mYy m98 17 y98_7.toNatClampNeg)))], [])) rfl ?_
                            exact rsub [(0, .ref 0), (1, .int x1), (3, .int y69_3), (4, .int ((mI m69 0 40))), (5, .int ((mX m69 21 y69_3.toNatClampNeg))), (6, .int r72), (7, .int y98_7), (8, .long ((mYy m98 17 y98_7.toNatClampNeg))), (10, .int ((y110_10 + 1)))] ⟨rfl, ⟨rfl, ⟨rfl, ⟨rfl, ⟨rfl, ⟨rfl, ⟨rfl, ⟨rfl, ⟨rfl, trivial⟩⟩⟩⟩⟩⟩⟩⟩⟩ ⟨rfl, ⟨rfl, ⟨rfl, ⟨rfl, ⟨rfl, ⟨rfl, ⟨rfl, ⟨rfl, ⟨rfl, trivial⟩⟩⟩⟩⟩⟩⟩⟩⟩ (ih146 ((y110_10 + 1)) m117 h)
                        · rw [if_neg c112] at h
                          refine rjt (a := (204, [(0, .ref 0), (1, .int x1), (3, .int y69_3), (4, .int ((mI m69 0 40))), (5, .int ((mX m69 21 y69_3.toNatClampNeg))), (6, .int r72), (7, .int y98_7), (8, .long ((mYy m98 17 y98_7.toNatClampNeg))), (10, .int y110_10)], [])) (b := (157, [(0, .ref 0), (1, .int x1), (3, .int y69_3), (4, .int ((mI m69 0 40))), (5, .int ((mX m69 21 y69_3.toNatClampNeg))), (6, .int r72), (7, .int y98_7), (8, .long ((mYy m98 17 y98_7.toNatClampNeg))), (10, .int y110_10)], [])) rfl rfl c112 ?_
                          exact rsub [(0, .ref 0), (1, .int x1), (3, .int y69_3), (4, .int ((mI m69 0 40))), (5, .int ((mX m69 21 y69_3.toNatClampNeg))), (6, .int r72), (7, .int y98_7)] ⟨rfl, ⟨rfl, ⟨rfl, ⟨rfl, ⟨rfl, ⟨rfl, ⟨rfl, trivial⟩⟩⟩⟩⟩⟩⟩ ⟨rfl, ⟨rfl, ⟨rfl, ⟨rfl, ⟨rfl, ⟨rfl, ⟨rfl, trivial⟩⟩⟩⟩⟩⟩⟩ (ex146 y110_10 m110 h)
                  exact rsub [(0, .ref 0), (1, .int x1), (3, .int y69_3), (4, .int ((mI m69 0 40))), (5, .int ((mX m69 21 y69_3.toNatClampNeg))), (6, .int r72), (7, .int y98_7), (8, .long ((mYy m98 17 y98_7.toNatClampNeg))), (10, .int 0)] ⟨rfl, ⟨rfl, ⟨rfl, ⟨rfl, ⟨rfl, ⟨rfl, ⟨rfl, ⟨rfl, ⟨rfl, trivial⟩⟩⟩⟩⟩⟩⟩⟩⟩ ⟨rfl, ⟨rfl, ⟨rfl, ⟨rfl, ⟨rfl, ⟨rfl, ⟨rfl, ⟨rfl, ⟨rfl, trivial⟩⟩⟩⟩⟩⟩⟩⟩⟩ (lp146 N 0 m101 h)
                rw [jn] at h
                try dsimp only at h
                by_cases c118 : r72 = 0
                · rw [if_pos c118] at h
                  refine rjt (a := (143, [(8, .long ((mYy m98 17 y98_7.toNatClampNeg))), (0, .ref 0), (1, .int x1), (3, .int y69_3), (4, .int ((mI m69 0 40))), (5, .int ((mX m69 21 y69_3.toNatClampNeg))), (6, .int r72), (7, .int y98_7)], [])) (b := (105, [(8, .long ((mYy m98 17 y98_7.toNatClampNeg))), (0, .ref 0), (1, .int x1), (3, .int y69_3), (4, .int ((mI m69 0 40))), (5, .int ((mX m69 21 y69_3.toNatClampNeg))), (6, .int r72), (7, .int y98_7)], [])) rfl rfl c118 ?_
                  exact rsub [(0, .ref 0), (1, .int x1), (3, .int y69_3), (4, .int ((mI m69 0 40))), (5, .int ((mX m69 21 y69_3.toNatClampNeg))), (6, .int r72), (7, .int y98_7), (8, .long ((mYy m98 17 y98_7.toNatClampNeg)))] ⟨rfl, ⟨rfl, ⟨rfl, ⟨rfl, ⟨rfl, ⟨rfl, ⟨rfl, ⟨rfl, trivial⟩⟩⟩⟩⟩⟩⟩⟩ ⟨rfl, ⟨rfl, ⟨rfl, ⟨rfl, ⟨rfl, ⟨rfl, ⟨rfl, ⟨rfl, trivial⟩⟩⟩⟩⟩⟩⟩⟩ (jp143 m98 h)
                · rw [if_neg c118] at h
                  refine rjf (a := (143, [(8, .long ((mYy m98 17 y98_7.toNatClampNeg))), (0, .ref 0), (1, .int x1), (3, .int y69_3), (4, .int ((mI m69 0 40))), (5, .int ((mX m69 21 y69_3.toNatClampNeg))), (6, .int r72), (7, .int y98_7)], [])) (b := (105, [(8, .long ((mYy m98 17 y98_7.toNatClampNeg))), (0, .ref 0), (1, .int x1), (3, .int y69_3), (4, .int ((mI m69 0 40))), (5, .int ((mX m69 21 y69_3.toNatClampNeg))), (6, .int r72), (7, .int y98_7)], [])) rfl rfl c118 ?_
                  refine rsn 3 (t := (109, [(8, .long ((mYy m98 17 y98_7.toNatClampNeg))), (0, .ref 0), (1, .int x1), (3, .int y69_3), (4, .int ((mI m69 0 40))), (5, .int ((mX m69 21 y69_3.toNatClampNeg))), (6, .int r72), (7, .int y98_7)], [.int 1, .int r72, .ref 0])) rfl ?_
                  have jp138 : ∀ (s119 : Int64), (((fun j143 => b3 (f_Mo_lays N s119 ((mI m69 0 40)) m98) fun m120 => j143 m120) (fun (m101 : Mm) => f_Mo_knownBy_L146 N x1 y69_3 ((mI m69 0 40)) ((mX m69 21 y69_3.toNatClampNeg)) r72 y98_7 ((mYy m98 17 y98_7.toNatClampNeg)) (fun (z109_10 : Int32) (m109 : Mm) => f_Mo_knownBy_L84 N x1 y69_3 ((mI m69 0 40)) ((mX m69 21 y69_3.toNatClampNeg)) r72 (fun (z97_7 : Int32) (m97 : Mm) => f_Mo_knownBy_L39 N x1 (fun (z58_2 : Int32) (z58_3 : Int32) (m58 : Mm) => f_Mo_knownBy_L226 N x1 (fun (z63_3 : Int32) (z63_4 : Int32) (m63 : Mm) => some (z63_3, m63)) N ((-2147483648)) z58_2 m58) n39 ((mI m69 0 40)) ((y69_3 + 1)) m97) n84 ((y98_7 + 1)) m109) N 0 m101))) = some (r0, mf) → RN xs L al (Ev xs L al d) 206 138 [(0, .ref 0), (1, .int x1), (3, .int y69_3), (4, .int ((mI m69 0 40))), (5, .int ((mX m69 21 y69_3.toNatClampNeg))), (6, .int r72), (7, .int y98_7), (8, .long ((mYy m98 17 y98_7.toNatClampNeg)))] [.long s119, .ref 0] (m98, S) (some (.int r0)) (mf, S) := by
                    intro s119 h
                    try dsimp only at h
                    refine rsn 1 (t := (140, [(0, .ref 0), (1, .int x1), (3, .int y69_3), (4, .int ((mI m69 0 40))), (5, .int ((mX m69 21 y69_3.toNatClampNeg))), (6, .int r72), (7, .int y98_7), (8, .long ((mYy m98 17 y98_7.toNatClampNeg)))], [.int ((mI m69 0 40)), .long s119, .ref 0])) rfl ?_
                    obtain ⟨m120, g120, h⟩ := b3_some h
                    refine rcV 195 0 [.long s119, .int ((mI m69 0 40))] rfl rfl rfl (hSh.k 0 rfl _) (Nat.le_of_ble_eq_true rfl) rfl (e_Mo_lays N (by omega) hSh g120) ?_
                    show RN xs L al (Ev xs L al d) 206 143 [(0, .ref 0), (1, .int x1), (3, .int y69_3), (4, .int ((mI m69 0 40))), (5, .int ((mX m69 21 y69_3.toNatClampNeg))), (6, .int r72), (7, .int y98_7), (8, .long ((mYy m98 17 y98_7.toNatClampNeg)))] [] (m120, S) (some (.int r0)) (mf, S)
                    exact rsub [(0, .ref 0), (1, .int x1), (3, .int y69_3), (4, .int ((mI m69 0 40))), (5, .int ((mX m69 21 y69_3.toNatClampNeg))), (6, .int r72), (7, .int y98_7), (8, .long ((mYy m98 17 y98_7.toNatClampNeg)))] ⟨rfl, ⟨rfl, ⟨rfl, ⟨rfl, ⟨rfl, ⟨rfl, ⟨rfl, ⟨rfl, trivial⟩⟩⟩⟩⟩⟩⟩⟩ ⟨rfl, ⟨rfl, ⟨rfl, ⟨rfl, ⟨rfl, ⟨rfl, ⟨rfl, ⟨rfl, trivial⟩⟩⟩⟩⟩⟩⟩⟩ (jp143 m120 h)
                  rw [jn] at h
                  try dsimp only at h
                  by_cases c121 : r72 = 1
                  · rw [if_pos c121] at h
                    refine rjf (a := (136, [(8, .long ((mYy m98 17 y98_7.toNatClampNeg))), (0, .ref 0), (1, .int x1), (3, .int y69_3), (4, .int ((mI m69 0 40))), (5, .int ((mX m69 21 y69_3.toNatClampNeg))), (6, .int r72), (7, .int y98_7)], [.ref 0])) (b := (112, [(8, .long ((mYy m98 17 y98_7.toNatClampNeg))), (0, .ref 0), (1, .int x1), (3, .int y69_3), (4, .int ((mI m69 0 40))), (5, .int ((mX m69 21 y69_3.toNatClampNeg))), (6, .int r72), (7, .int y98_7)], [.ref 0])) rfl rfl (fun q => q c121) ?_
                    refine rsn 5 (t := (119, [(8, .long ((mYy m98 17 y98_7.toNatClampNeg))), (0, .ref 0), (1, .int x1), (3, .int y69_3), (4, .int ((mI m69 0 40))), (5, .int ((mX m69 21 y69_3.toNatClampNeg))), (6, .int r72), (7, .int y98_7)], [.ref 0, .ref 0, .int 36, .long 1, .long ((mYy m98 17 y98_7.toNatClampNeg)), .ref 0])) rfl ?_
                    refine pgI rfl rfl rfl (hSh.k 0 rfl _) ?_
                    show RN xs L al (Ev xs L al d) 206 122 [(8, .long ((mYy m98 17 y98_7.toNatClampNeg))), (0, .ref 0), (1, .int x1), (3, .int y69_3), (4, .int ((mI m69 0 40))), (5, .int ((mX m69 21 y69_3.toNatClampNeg))), (6, .int r72), (7, .int y98_7)] [.int ((mI m98 0 24)), .ref 0, .int 36, .long 1, .long ((mYy m98 17 y98_7.toNatClampNeg)), .ref 0] (m98, S) (some (.int r0)) (mf, S)
                    refine rsn 4 (t := (127, [(8, .long ((mYy m98 17 y98_7.toNatClampNeg))), (0, .ref 0), (1, .int x1), (3, .int y69_3), (4, .int ((mI m69 0 40))), (5, .int ((mX m69 21 y69_3.toNatClampNeg))), (6, .int r72), (7, .int y98_7)], [.int 2, .int ((mX m69 21 y69_3.toNatClampNeg)), .int ((((mI m98 0 24)) + y69_3)), .ref 0, .int 36, .long 1, .long ((mYy m98 17 y98_7.toNatClampNeg)), .ref 0])) rfl ?_
                    obtain ⟨r122, g122, h⟩ := b1_some h
                    refine rcV 177 0 [.int ((((mI m98 0 24)) + y69_3)), .int ((mX m69 21 y69_3.toNatClampNeg)), .int 2] rfl rfl rfl (hSh.k 0 rfl _) (Nat.le_of_ble_eq_true rfl) rfl (e_Mo_altOf N (by omega) hSh g122) ?_
                    show RN xs L al (Ev xs L al d) 206 130 [(8, .long ((mYy m98 17 y98_7.toNatClampNeg))), (0, .ref 0), (1, .int x1), (3, .int y69_3), (4, .int ((mI m69 0 40))), (5, .int ((mX m69 21 y69_3.toNatClampNeg))), (6, .int r72), (7, .int y98_7)] [.int r122, .int 36, .long 1, .long ((mYy m98 17 y98_7.toNatClampNeg)), .ref 0] (m98, S) (some (.int r0)) (mf, S)
                    refine rsn 1 (t := (131, [(8, .long ((mYy m98 17 y98_7.toNatClampNeg))), (0, .ref 0), (1, .int x1), (3, .int y69_3), (4, .int ((mI m69 0 40))), (5, .int ((mX m69 21 y69_3.toNatClampNeg))), (6, .int r72), (7, .int y98_7)], [.int ((36 + r122)), .long 1, .long ((mYy m98 17 y98_7.toNatClampNeg)), .ref 0])) rfl ?_
                    refine rsn 1 (t := (132, [(8, .long ((mYy m98 17 y98_7.toNatClampNeg))), (0, .ref 0), (1, .int x1), (3, .int y69_3), (4, .int ((mI m69 0 40))), (5, .int ((mX m69 21 y69_3.toNatClampNeg))), (6, .int r72), (7, .int y98_7)], [.long ((lsl 1 ((36 + r122)))), .long ((mYy m98 17 y98_7.toNatClampNeg)), .ref 0])) rfl ?_
                    refine rsn 2 (t := (138, [(8, .long ((mYy m98 17 y98_7.toNatClampNeg))), (0, .ref 0), (1, .int x1), (3, .int y69_3), (4, .int ((mI m69 0 40))), (5, .int ((mX m69 21 y69_3.toNatClampNeg))), (6, .int r72), (7, .int y98_7)], [.long ((((mYy m98 17 y98_7.toNatClampNeg)) ||| ((lsl 1 ((36 + r122)))))), .ref 0])) rfl ?_
                    exact rsub [(0, .ref 0), (1, .int x1), (3, .int y69_3), (4, .int ((mI m69 0 40))), (5, .int ((mX m69 21 y69_3.toNatClampNeg))), (6, .int r72), (7, .int y98_7), (8, .long ((mYy m98 17 y98_7.toNatClampNeg)))] ⟨rfl, ⟨rfl, ⟨rfl, ⟨rfl, ⟨rfl, ⟨rfl, ⟨rfl, ⟨rfl, trivial⟩⟩⟩⟩⟩⟩⟩⟩ ⟨rfl, ⟨rfl, ⟨rfl, ⟨rfl, ⟨rfl, ⟨rfl, ⟨rfl, ⟨rfl, trivial⟩⟩⟩⟩⟩⟩⟩⟩ (jp138 ((((mYy m98 17 y98_7.toNatClampNeg)) ||| ((lsl 1 ((36 + r122)))))) h)
                  · rw [if_neg c121] at h
                    refine rjt (a := (136, [(8, .long ((mYy m98 17 y98_7.toNatClampNeg))), (0, .ref 0), (1, .int x1), (3, .int y69_3), (4, .int ((mI m69 0 40))), (5, .int ((mX m69 21 y69_3.toNatClampNeg))), (6, .int r72), (7, .int y98_7)], [.ref 0])) (b := (112, [(8, .long ((mYy m98 17 y98_7.toNatClampNeg))), (0, .ref 0), (1, .int x1), (3, .int y69_3), (4, .int ((mI m69 0 40))), (5, .int ((mX m69 21 y69_3.toNatClampNeg))), (6, .int r72), (7, .int y98_7)], [.ref 0])) rfl rfl c121 ?_
                    refine rsn 1 (t := (138, [(8, .long ((mYy m98 17 y98_7.toNatClampNeg))), (0, .ref 0), (1, .int x1), (3, .int y69_3), (4, .int ((mI m69 0 40))), (5, .int ((mX m69 21 y69_3.toNatClampNeg))), (6, .int r72), (7, .int y98_7)], [.long ((mYy m98 17 y98_7.toNatClampNeg)), .ref 0])) rfl ?_
                    exact rsub [(0, .ref 0), (1, .int x1), (3, .int y69_3), (4, .int ((mI m69 0 40))), (5, .int ((mX m69 21 y69_3.toNatClampNeg))), (6, .int r72), (7, .int y98_7), (8, .long ((mYy m98 17 y98_7.toNatClampNeg)))] ⟨rfl, ⟨rfl, ⟨rfl, ⟨rfl, ⟨rfl, ⟨rfl, ⟨rfl, ⟨rfl, trivial⟩⟩⟩⟩⟩⟩⟩⟩ ⟨rfl, ⟨rfl, ⟨rfl, ⟨rfl, ⟨rfl, ⟨rfl, ⟨rfl, ⟨rfl, trivial⟩⟩⟩⟩⟩⟩⟩⟩ (jp138 ((mYy m98 17 y98_7.toNatClampNeg)) h)
          exact rsub [(0, .ref 0), (1, .int x1), (3, .int y69_3), (4, .int ((mI m69 0 40))), (5, .int ((mX m69 21 y69_3.toNatClampNeg))), (6, .int r72), (7, .int y69_2)] ⟨rfl, ⟨rfl, ⟨rfl, ⟨rfl, ⟨rfl, ⟨rfl, ⟨rfl, trivial⟩⟩⟩⟩⟩⟩⟩ ⟨rfl, ⟨rfl, ⟨rfl, ⟨rfl, ⟨rfl, ⟨rfl, ⟨rfl, trivial⟩⟩⟩⟩⟩⟩⟩ (lp84 N y69_2 m69 h)
    exact rsub [(0, .ref 0), (1, .int x1), (2, .int 0), (3, .int 0)] ⟨rfl, ⟨rfl, ⟨rfl, ⟨rfl, trivial⟩⟩⟩⟩ ⟨rfl, ⟨rfl, ⟨rfl, ⟨rfl, trivial⟩⟩⟩⟩ (lp39 N 0 0 m4 h)
  have lp2 : ∀ (n : Nat) (y123_2 : Int32) (m123 : Mm), (f_Mo_knownBy_L2 N x1 (fun (z3_2 : Int32) (m3 : Mm) => b3 (f_Mo_lays N ((mJ m3 0 23)) 0 (vI m3 0 40 0)) fun m4 => f_Mo_knownBy_L39 N x1 (fun (z58_2 : Int32) (z58_3 : Int32) (m58 : Mm) => f_Mo_knownBy_L226 N x1 (fun (z63_3 : Int32) (z63_4 : Int32) (m63 : Mm) => some (z63_3, m63)) N ((-2147483648)) z58_2 m58) N 0 0 m4) n y123_2 m123) = some (r0, mf) → RN xs L al (Ev xs L al d) 206 2 [(0, .ref 0), (1, .int x1), (2, .int y123_2)] [] (m123, S) (some (.int r0)) (mf, S) := by
    intro n
    induction n with
    | zero => intro y123_2 m123 h; exact absurd h (by simp [f_Mo_knownBy_L2])
    | succ n2 ih2 =>
      intro y123_2 m123 h
      try dsimp only at h
      rw [f_Mo_knownBy_L2] at h
      try dsimp only at h
      refine rsn 2 (t := (5, [(0, .ref 0), (1, .int x1), (2, .int y123_2)], [.int 524288, .int y123_2])) rfl ?_
      by_cases c124 : 524288 ≤ y123_2
      · rw [if_pos c124] at h
        refine rjt (a := (21, [(0, .ref 0), (1, .int x1), (2, .int y123_2)], [])) (b := (8, [(0, .ref 0), (1, .int x1), (2, .int y123_2)], [])) rfl rfl c124 ?_
        exact rsub [(0, .ref 0), (1, .int x1)] ⟨rfl, ⟨rfl, trivial⟩⟩ ⟨rfl, ⟨rfl, trivial⟩⟩ (ex2 y123_2 m123 h)
      · rw [if_neg c124] at h
        refine rjf (a := (21, [(0, .ref 0), (1, .int x1), (2, .int y123_2)], [])) (b := (8, [(0, .ref 0), (1, .int x1), (2, .int y123_2)], [])) rfl rfl c124 ?_
        refine rsn 1 (t := (9, [(0, .ref 0), (1, .int x1), (2, .int y123_2)], [.ref 0])) rfl ?_
        refine rgR rfl rfl rfl (hSh.k 0 rfl _) (hSh.r 19 rfl _) ?_
        refine rsn 2 (t := (14, [(0, .ref 0), (1, .int x1), (2, .int y123_2)], [.int 0, .int y123_2, .ref 20])) rfl ?_
        obtain ⟨c125, h⟩ := ck_some h
        refine psI rfl (hSh.k 20 rfl _) (hSh.l 19 rfl _) c125 ?_
        refine rsn 2 (t := (2, [(2, .int ((y123_2 + 1))), (0, .ref 0), (1, .int x1)], [])) rfl ?_
        exact rsub [(0, .ref 0), (1, .int x1), (2, .int ((y123_2 + 1)))] ⟨rfl, ⟨rfl, ⟨rfl, trivial⟩⟩⟩ ⟨rfl, ⟨rfl, ⟨rfl, trivial⟩⟩⟩ (ih2 ((y123_2 + 1)) ((vX m123 20 y123_2.toNatClampNeg 0)) h)
  exact rsub [(0, .ref 0), (1, .int x1), (2, .int 0)] ⟨rfl, ⟨rfl, ⟨rfl, trivial⟩⟩⟩ ⟨rfl, ⟨rfl, ⟨rfl, trivial⟩⟩⟩ (lp2 N 0 m h)
def f_Mo_known (N : Nat) (x1 : Int32) (x2 : Int32) (m : Mm) : Option (Int32 × Mm) := (if ((mI m 0 15)) = 0 then some ((-2147483648), m) else b1 (f_Mo_isGoal N x1) fun r2 => (if r2 = 0 then some ((-2147483648), m) else (if ((mI m 0 25)) = ((-1)) then b2 (f_Mo_isAltRow N x2 m) fun r5 m5 => (if r5 = 0 then some ((-2147483648), m5) else b2 (f_Mo_knownBy N x1 m5) fun r7 m7 => some (r7, m7)) else some ((-2147483648), m))))
set_option maxRecDepth 20000 in
set_option maxHeartbeats 4000000 in
theorem e_Mo_known {xs : Nat → Int32} {L : Nat} {al : Bool} (N : Nat) {d : Nat} (hd : 9 ≤ d) {S : St} (hSh : ShR S) {x1 : Int32} {x2 : Int32} {m : Mm} {r0 : Int32} {mf : Mm} (h : f_Mo_known N x1 x2 m = some (r0, mf)) : Ev xs L al d 203 [.ref 0, .int x1, .int x2] (m, S) (some (.int r0)) (mf, S) := by
  obtain ⟨d, rfl⟩ : ∃ e, d = e + 1 := ⟨d - 1, by omega⟩
  refine ev_of (by decide) (Nat.le_of_ble_eq_true rfl) ?_
  rw [f_Mo_known] at h
  show RN xs L al (Ev xs L al d) 203 0 [(0, .ref 0), (1, .int x1), (2, .int x2)] [] (m, S) (some (.int r0)) (mf, S)
  refine rsn 1 (t := (1, [(0, .ref 0), (1, .int x1), (2, .int x2)], [.ref 0])) rfl ?_
  refine pgI rfl rfl rfl (hSh.k 0 rfl _) ?_
  show RN xs L al (Ev xs L al d) 203 4 [(0, .ref 0), (1, .int x1), (2, .int x2)] [.int ((mI m 0 15))] (m, S) (some (.int r0)) (mf, S)
  by_cases c1 : ((mI m 0 15)) = 0
  · rw [if_pos c1] at h
    refine rjt (a := (38, [(0, .ref 0), (1, .int x1), (2, .int x2)], [])) (b := (7, [(0, .ref 0), (1, .int x1), (2, .int x2)], [])) rfl rfl c1 ?_
    refine rsn 1 (t := (41, [(0, .ref 0), (1, .int x1), (2, .int x2)], [.int ((-2147483648))])) rfl ?_
    cases h
    exact rret rfl ⟨rfl, rfl, _, _, rfl, rfl, rfl, rfl⟩
  · rw [if_neg c1] at h
    refine rjf (a := (38, [(0, .ref 0), (1, .int x1), (2, .int x2)], [])) (b := (7, [(0, .ref 0), (1, .int x1), (2, .int x2)], [])) rfl rfl c1 ?_
    refine rsn 1 (t := (8, [(0, .ref 0), (1, .int x1), (2, .int x2)], [.int x1])) rfl ?_
    obtain ⟨r2, g2, h⟩ := b1_some h
    refine rcS 184 [.int x1] rfl rfl rfl (Nat.le_of_ble_eq_true rfl) rfl (e_Mo_isGoal N (by omega) g2) ?_
    show RN xs L al (Ev xs L al d) 203 11 [(0, .ref 0), (1, .int x1), (2, .int x2)] [.int r2] (m, S) (some (.int r0)) (mf, S)
    by_cases c3 : r2 = 0
    · rw [if_pos c3] at h
      refine rjt (a := (38, [(0, .ref 0), (1, .int x1), (2, .int x2)], [])) (b := (14, [(0, .ref 0), (1, .int x1), (2, .int x2)], [])) rfl rfl c3 ?_
      refine rsn 1 (t := (41, [(0, .ref 0), (1, .int x1), (2, .int x2)], [.int ((-2147483648))])) rfl ?_
      cases h
      exact rret rfl ⟨rfl, rfl, _, _, rfl, rfl, rfl, rfl⟩
    · rw [if_neg c3] at h
      refine rjf (a := (38, [(0, .ref 0), (1, .int x1), (2, .int x2)], [])) (b := (14, [(0, .ref 0), (1, .int x1), (2, .int x2)], [])) rfl rfl c3 ?_
      refine rsn 1 (t := (15, [(0, .ref 0), (1, .int x1), (2, .int x2)], [.ref 0])) rfl ?_
      refine pgI rfl rfl rfl (hSh.k 0 rfl _) ?_
      show RN xs L al (Ev xs L al d) 203 18 [(0, .ref 0), (1, .int x1), (2, .int x2)] [.int ((mI m 0 25))] (m, S) (some (.int r0)) (mf, S)
      refine rsn 1 (t := (19, [(0, .ref 0), (1, .int x1), (2, .int x2)], [.int ((-1)), .int ((mI m 0 25))])) rfl ?_
      by_cases c4 : ((mI m 0 25)) = ((-1))
      · rw [if_pos c4] at h
        refine rjf (a := (38, [(0, .ref 0), (1, .int x1), (2, .int x2)], [])) (b := (22, [(0, .ref 0), (1, .int x1), (2, .int x2)], [])) rfl rfl (fun q => q c4) ?_
        refine rsn 2 (t := (24, [(0, .ref 0), (1, .int x1), (2, .int x2)], [.int x2, .ref 0])) rfl ?_
        obtain ⟨r5, m5, g5, h⟩ := b2_some h
        refine rcV 204 0 [.int x2] rfl rfl rfl (hSh.k 0 rfl _) (Nat.le_of_ble_eq_true rfl) rfl (e_Mo_isAltRow N (by omega) hSh g5) ?_
        show RN xs L al (Ev xs L al d) 203 27 [(0, .ref 0), (1, .int x1), (2, .int x2)] [.int r5] (m5, S) (some (.int r0)) (mf, S)
        by_cases c6 : r5 = 0
        · rw [if_pos c6] at h
          refine rjt (a := (38, [(0, .ref 0), (1, .int x1), (2, .int x2)], [])) (b := (30, [(0, .ref 0), (1, .int x1), (2, .int x2)], [])) rfl rfl c6 ?_
          refine rsn 1 (t := (41, [(0, .ref 0), (1, .int x1), (2, .int x2)], [.int ((-2147483648))])) rfl ?_
          cases h
          exact rret rfl ⟨rfl, rfl, _, _, rfl, rfl, rfl, rfl⟩
        · rw [if_neg c6] at h
          refine rjf (a := (38, [(0, .ref 0), (1, .int x1), (2, .int x2)], [])) (b := (30, [(0, .ref 0), (1, .int x1), (2, .int x2)], [])) rfl rfl c6 ?_
          refine rsn 2 (t := (32, [(0, .ref 0), (1, .int x1), (2, .int x2)], [.int x1, .ref 0])) rfl ?_
          obtain ⟨r7, m7, g7, h⟩ := b2_some h
          refine rcV 206 0 [.int x1] rfl rfl rfl (hSh.k 0 rfl _) (Nat.le_of_ble_eq_true rfl) rfl (e_Mo_knownBy N (by omega) hSh g7) ?_
          show RN xs L al (Ev xs L al d) 203 35 [(0, .ref 0), (1, .int x1), (2, .int x2)] [.int r7] (m7, S) (some (.int r0)) (mf, S)
          refine rsn 1 (t := (41, [(0, .ref 0), (1, .int x1), (2, .int x2)], [.int r7])) rfl ?_
          cases h
          exact rret rfl ⟨rfl, rfl, _, _, rfl, rfl, rfl, rfl⟩
      · rw [if_neg c4] at h
        refine rjt (a := (38, [(0, .ref 0), (1, .int x1), (2, .int x2)], [])) (b := (22, [(0, .ref 0), (1, .int x1), (2, .int x2)], [])) rfl rfl c4 ?_
        refine rsn 1 (t := (41, [(0, .ref 0), (1, .int x1), (2, .int x2)], [.int ((-2147483648))])) rfl ?_
        cases h
        exact rret rfl ⟨rfl, rfl, _, _, rfl, rfl, rfl, rfl⟩
