/-! The reference's methods as functions (printed by wip/whole/gen_fun.py). -/
def f_Mo_told_L16 (N : Nat) (x1 : Int64) (m : Mm) (k16 : Int64 → Int32 → Option (Int32)) : Nat → Int64 → Int32 → Option (Int32)
  | 0, _, _ => none
  | n16 + 1, x4, x6 => f_Mo_told_L16 N x1 m k16 n16 x4 x6
def f_Mo_told (N : Nat) (x1 : Int64) (x3 : Int32) (m : Mm) : Option (Int32) := (if x3 = 0 then some x1.toInt32 else f_Mo_told_L16 N x1 m (fun (z2_4 : Int64) (z2_6 : Int32) => ck (¬ z2_4 = 0) (some (((((x1 * 1000)) / z2_4)).toInt32))) N 1 ((mI m 0 24)))
set_option maxRecDepth 20000 in
set_option maxHeartbeats 4000000 in
theorem e_Mo_told {xs : Nat → Int32} {L : Nat} {al : Bool} (N : Nat) {d : Nat} (hd : 1 ≤ d) {S : St} (hSh : ShR S) {x1 : Int64} {x3 : Int32} {m : Mm} {r0 : Int32} (h : f_Mo_told N x1 x3 m = some r0) : Ev xs L al d 200 [.ref 0, .long x1, .int x3] (m, S) (some (.int r0)) (m, S) := by
  obtain ⟨d, rfl⟩ : ∃ e, d = e + 1 := ⟨d - 1, by omega⟩
  refine ev_of (by decide) (Nat.le_of_ble_eq_true rfl) ?_
  rw [f_Mo_told] at h
  show RN xs L al (Ev xs L al d) 200 0 [(0, .ref 0), (1, .long x1), (3, .int x3)] [] (m, S) (some (.int r0)) (m, S)
  refine rsn 1 (t := (1, [(0, .ref 0), (1, .long x1), (3, .int x3)], [.int x3])) rfl ?_
  by_cases c1 : x3 = 0
  · rw [if_pos c1] at h
    refine rjf (a := (7, [(0, .ref 0), (1, .long x1), (3, .int x3)], [])) (b := (4, [(0, .ref 0), (1, .long x1), (3, .int x3)], [])) rfl rfl (fun q => q c1) ?_
    refine rsn 2 (t := (6, [(0, .ref 0), (1, .long x1), (3, .int x3)], [.int x1.toInt32])) rfl ?_
    cases h
    exact rret rfl ⟨rfl, rfl, _, _, rfl, rfl, rfl, rfl⟩
  · rw [if_neg c1] at h
    refine rjt (a := (7, [(0, .ref 0), (1, .long x1), (3, .int x3)], [])) (b := (4, [(0, .ref 0), (1, .long x1), (3, .int x3)], [])) rfl rfl c1 ?_
    refine rsn 3 (t := (11, [(4, .long 1), (0, .ref 0), (1, .long x1), (3, .int x3)], [.ref 0])) rfl ?_
    refine pgI rfl rfl rfl (hSh.k 0 rfl _) ?_
    show RN xs L al (Ev xs L al d) 200 14 [(4, .long 1), (0, .ref 0), (1, .long x1), (3, .int x3)] [.int ((mI m 0 24))] (m, S) (some (.int r0)) (m, S)
    refine rsn 1 (t := (16, [(6, .int ((mI m 0 24))), (4, .long 1), (0, .ref 0), (1, .long x1), (3, .int x3)], [])) rfl ?_
    have ex16 : ∀ (z2_4 : Int64) (z2_6 : Int32), (ck (¬ z2_4 = 0) (some (((((x1 * 1000)) / z2_4)).toInt32))) = some r0 → RN xs L al (Ev xs L al d) 200 39 [(1, .long x1), (4, .long z2_4)] [] (m, S) (some (.int r0)) (m, S) := by
      intro z2_4 z2_6 h
      try dsimp only at h
      refine rsn 4 (t := (46, [(1, .long x1), (4, .long z2_4)], [.long z2_4, .long ((x1 * 1000))])) rfl ?_
      obtain ⟨c3, h⟩ := ck_some h
      refine rs (t := (47, [(1, .long x1), (4, .long z2_4)], [.long ((((x1 * 1000)) / z2_4))])) rfl (by simp [stp, nxt, dJ, c3, irm, lrm]) ?_
      refine rsn 1 (t := (48, [(1, .long x1), (4, .long z2_4)], [.int (((((x1 * 1000)) / z2_4)).toInt32)])) rfl ?_
      cases h
      exact rret rfl ⟨rfl, rfl, _, _, rfl, rfl, rfl, rfl⟩
    have lp16 : ∀ (n : Nat) (y4_4 : Int64) (y4_6 : Int32), (f_Mo_told_L16 N x1 m (fun (z2_4 : Int64) (z2_6 : Int32) => ck (¬ z2_4 = 0) (some (((((x1 * 1000)) / z2_4)).toInt32))) n y4_4 y4_6) = some r0 → RN xs L al (Ev xs L al d) 200 16 [(0, .ref 0), (1, .long x1), (4, .long y4_4), (6, .int y4_6)] [] (m, S) (some (.int r0)) (m, S) := by
      intro n
      induction n with
      | zero => intro y4_4 y4_6 h; exact absurd h (by simp [f_Mo_told_L16])
      | succ n16 ih16 =>
        intro y4_4 y4_6 h
        try dsimp only at h
        rw [f_Mo_told_L16] at h
        try dsimp only at h
        exact rsub [(0, .ref 0), (1, .long x1), (4, .long y4_4), (6, .int y4_6)] ⟨rfl, ⟨rfl, ⟨rfl, ⟨rfl, trivial⟩⟩⟩⟩ ⟨rfl, ⟨rfl, ⟨rfl, ⟨rfl, trivial⟩⟩⟩⟩ (ih16 y4_4 y4_6 h)
    exact rsub [(0, .ref 0), (1, .long x1), (4, .long 1), (6, .int ((mI m 0 24)))] ⟨rfl, ⟨rfl, ⟨rfl, ⟨rfl, trivial⟩⟩⟩⟩ ⟨rfl, ⟨rfl, ⟨rfl, ⟨rfl, trivial⟩⟩⟩⟩ (lp16 N 1 ((mI m 0 24)) h)
def f_Mo_sure (N : Nat) (x1 : Int32) (x2 : Int32) (m : Mm) : Option (Int32 × Mm) := (if ((mI m 0 15)) = 0 then some ((-2147483648), m) else b1 (f_Mo_isGoal N x1) fun r2 => (if r2 = 0 then some ((-2147483648), m) else b2 (f_Mo_solved N x1 x2 ((mI m 0 21)) ((mI m 0 22)) m) fun r4 m4 => b1 (f_Mo_told N r4 x2 m4) fun r5 => some (r5, m4)))
set_option maxRecDepth 20000 in
set_option maxHeartbeats 4000000 in
theorem e_Mo_sure {xs : Nat → Int32} {L : Nat} {al : Bool} (N : Nat) {d : Nat} (hd : 9 ≤ d) {S : St} (hSh : ShR S) {x1 : Int32} {x2 : Int32} {m : Mm} {r0 : Int32} {mf : Mm} (h : f_Mo_sure N x1 x2 m = some (r0, mf)) : Ev xs L al d 192 [.ref 0, .int x1, .int x2] (m, S) (some (.int r0)) (mf, S) := by
  obtain ⟨d, rfl⟩ : ∃ e, d = e + 1 := ⟨d - 1, by omega⟩
  refine ev_of (by decide) (Nat.le_of_ble_eq_true rfl) ?_
  rw [f_Mo_sure] at h
  show RN xs L al (Ev xs L al d) 192 0 [(0, .ref 0), (1, .int x1), (2, .int x2)] [] (m, S) (some (.int r0)) (mf, S)
  refine rsn 1 (t := (1, [(0, .ref 0), (1, .int x1), (2, .int x2)], [.ref 0])) rfl ?_
  refine pgI rfl rfl rfl (hSh.k 0 rfl _) ?_
  show RN xs L al (Ev xs L al d) 192 4 [(0, .ref 0), (1, .int x1), (2, .int x2)] [.int ((mI m 0 15))] (m, S) (some (.int r0)) (mf, S)
  by_cases c1 : ((mI m 0 15)) = 0
  · rw [if_pos c1] at h
    refine rjt (a := (36, [(0, .ref 0), (1, .int x1), (2, .int x2)], [])) (b := (7, [(0, .ref 0), (1, .int x1), (2, .int x2)], [])) rfl rfl c1 ?_
    refine rsn 1 (t := (39, [(0, .ref 0), (1, .int x1), (2, .int x2)], [.int ((-2147483648))])) rfl ?_
    cases h
    exact rret rfl ⟨rfl, rfl, _, _, rfl, rfl, rfl, rfl⟩
  · rw [if_neg c1] at h
    refine rjf (a := (36, [(0, .ref 0), (1, .int x1), (2, .int x2)], [])) (b := (7, [(0, .ref 0), (1, .int x1), (2, .int x2)], [])) rfl rfl c1 ?_
    refine rsn 1 (t := (8, [(0, .ref 0), (1, .int x1), (2, .int x2)], [.int x1])) rfl ?_
    obtain ⟨r2, g2, h⟩ := b1_some h
    refine rcS 184 [.int x1] rfl rfl rfl (Nat.le_of_ble_eq_true rfl) rfl (e_Mo_isGoal N (by omega) g2) ?_
    show RN xs L al (Ev xs L al d) 192 11 [(0, .ref 0), (1, .int x1), (2, .int x2)] [.int r2] (m, S) (some (.int r0)) (mf, S)
    by_cases c3 : r2 = 0
    · rw [if_pos c3] at h
      refine rjt (a := (36, [(0, .ref 0), (1, .int x1), (2, .int x2)], [])) (b := (14, [(0, .ref 0), (1, .int x1), (2, .int x2)], [])) rfl rfl c3 ?_
      refine rsn 1 (t := (39, [(0, .ref 0), (1, .int x1), (2, .int x2)], [.int ((-2147483648))])) rfl ?_
      cases h
      exact rret rfl ⟨rfl, rfl, _, _, rfl, rfl, rfl, rfl⟩
    · rw [if_neg c3] at h
      refine rjf (a := (36, [(0, .ref 0), (1, .int x1), (2, .int x2)], [])) (b := (14, [(0, .ref 0), (1, .int x1), (2, .int x2)], [])) rfl rfl c3 ?_
      refine rsn 5 (t := (19, [(0, .ref 0), (1, .int x1), (2, .int x2)], [.ref 0, .int x2, .int x1, .ref 0, .ref 0])) rfl ?_
      refine pgI rfl rfl rfl (hSh.k 0 rfl _) ?_
      show RN xs L al (Ev xs L al d) 192 22 [(0, .ref 0), (1, .int x1), (2, .int x2)] [.int ((mI m 0 21)), .int x2, .int x1, .ref 0, .ref 0] (m, S) (some (.int r0)) (mf, S)
      refine rsn 1 (t := (23, [(0, .ref 0), (1, .int x1), (2, .int x2)], [.ref 0, .int ((mI m 0 21)), .int x2, .int x1, .ref 0, .ref 0])) rfl ?_
      refine pgI rfl rfl rfl (hSh.k 0 rfl _) ?_
      show RN xs L al (Ev xs L al d) 192 26 [(0, .ref 0), (1, .int x1), (2, .int x2)] [.int ((mI m 0 22)), .int ((mI m 0 21)), .int x2, .int x1, .ref 0, .ref 0] (m, S) (some (.int r0)) (mf, S)
      obtain ⟨r4, m4, g4, h⟩ := b2_some h
      refine rcV 193 0 [.int x1, .int x2, .int ((mI m 0 21)), .int ((mI m 0 22))] rfl rfl rfl (hSh.k 0 rfl _) (Nat.le_of_ble_eq_true rfl) rfl (e_Mo_solved N (by omega) hSh g4) ?_
      show RN xs L al (Ev xs L al d) 192 29 [(0, .ref 0), (1, .int x1), (2, .int x2)] [.long r4, .ref 0] (m4, S) (some (.int r0)) (mf, S)
      refine rsn 1 (t := (30, [(0, .ref 0), (1, .int x1), (2, .int x2)], [.int x2, .long r4, .ref 0])) rfl ?_
      obtain ⟨r5, g5, h⟩ := b1_some h
      refine rcV 200 0 [.long r4, .int x2] rfl rfl rfl (hSh.k 0 rfl _) (Nat.le_of_ble_eq_true rfl) rfl (e_Mo_told N (by omega) hSh g5) ?_
      show RN xs L al (Ev xs L al d) 192 33 [(0, .ref 0), (1, .int x1), (2, .int x2)] [.int r5] (m4, S) (some (.int r0)) (mf, S)
      refine rsn 1 (t := (39, [(0, .ref 0), (1, .int x1), (2, .int x2)], [.int r5])) rfl ?_
      cases h
      exact rret rfl ⟨rfl, rfl, _, _, rfl, rfl, rfl, rfl⟩
def f_Mo_best_L35 (N : Nat) (x3 : Int64) (m : Mm) (k35 : Int32 → Option (Int32 × Mm)) : Nat → Int32 → Option (Int32 × Mm)
  | 0, _ => none
  | n35 + 1, x5 => f_Mo_best_L35 N x3 m k35 n35 x5
def f_Mo_best (N : Nat) (x1 : Int32) (x2 : Int32) (m : Mm) : Option (Int32 × Mm) := (if ((mI m 0 25)) = ((-1)) then some ((-1), m) else b1 (f_Mo_isGoal N x1) fun r2 => (if r2 = 0 then some ((-1), m) else b2 (f_Mo_solved N x1 x2 ((mI m 0 21)) ((mI m 0 22)) m) fun r4 m4 => f_Mo_best_L35 N r4 m4 (fun (z5_5 : Int32) => some ((-1), m4)) N 0))
set_option maxRecDepth 20000 in
set_option maxHeartbeats 4000000 in
theorem e_Mo_best {xs : Nat → Int32} {L : Nat} {al : Bool} (N : Nat) {d : Nat} (hd : 9 ≤ d) {S : St} (hSh : ShR S) {x1 : Int32} {x2 : Int32} {m : Mm} {r0 : Int32} {mf : Mm} (h : f_Mo_best N x1 x2 m = some (r0, mf)) : Ev xs L al d 201 [.ref 0, .int x1, .int x2] (m, S) (some (.int r0)) (mf, S) := by
  obtain ⟨d, rfl⟩ : ∃ e, d = e + 1 := ⟨d - 1, by omega⟩
  refine ev_of (by decide) (Nat.le_of_ble_eq_true rfl) ?_
  rw [f_Mo_best] at h
  show RN xs L al (Ev xs L al d) 201 0 [(0, .ref 0), (1, .int x1), (2, .int x2)] [] (m, S) (some (.int r0)) (mf, S)
  refine rsn 1 (t := (1, [(0, .ref 0), (1, .int x1), (2, .int x2)], [.ref 0])) rfl ?_
  refine pgI rfl rfl rfl (hSh.k 0 rfl _) ?_
  show RN xs L al (Ev xs L al d) 201 4 [(0, .ref 0), (1, .int x1), (2, .int x2)] [.int ((mI m 0 25))] (m, S) (some (.int r0)) (mf, S)
  refine rsn 1 (t := (5, [(0, .ref 0), (1, .int x1), (2, .int x2)], [.int ((-1)), .int ((mI m 0 25))])) rfl ?_
  by_cases c1 : ((mI m 0 25)) = ((-1))
  · rw [if_pos c1] at h
    refine rjt (a := (15, [(0, .ref 0), (1, .int x1), (2, .int x2)], [])) (b := (8, [(0, .ref 0), (1, .int x1), (2, .int x2)], [])) rfl rfl c1 ?_
    refine rsn 1 (t := (16, [(0, .ref 0), (1, .int x1), (2, .int x2)], [.int ((-1))])) rfl ?_
    cases h
    exact rret rfl ⟨rfl, rfl, _, _, rfl, rfl, rfl, rfl⟩
  · rw [if_neg c1] at h
    refine rjf (a := (15, [(0, .ref 0), (1, .int x1), (2, .int x2)], [])) (b := (8, [(0, .ref 0), (1, .int x1), (2, .int x2)], [])) rfl rfl c1 ?_
    refine rsn 1 (t := (9, [(0, .ref 0), (1, .int x1), (2, .int x2)], [.int x1])) rfl ?_
    obtain ⟨r2, g2, h⟩ := b1_some h
    refine rcS 184 [.int x1] rfl rfl rfl (Nat.le_of_ble_eq_true rfl) rfl (e_Mo_isGoal N (by omega) g2) ?_
    show RN xs L al (Ev xs L al d) 201 12 [(0, .ref 0), (1, .int x1), (2, .int x2)] [.int r2] (m, S) (some (.int r0)) (mf, S)
    by_cases c3 : r2 = 0
    · rw [if_pos c3] at h
      refine rjf (a := (17, [(0, .ref 0), (1, .int x1), (2, .int x2)], [])) (b := (15, [(0, .ref 0), (1, .int x1), (2, .int x2)], [])) rfl rfl (fun q => q c3) ?_
      refine rsn 1 (t := (16, [(0, .ref 0), (1, .int x1), (2, .int x2)], [.int ((-1))])) rfl ?_
      cases h
      exact rret rfl ⟨rfl, rfl, _, _, rfl, rfl, rfl, rfl⟩
    · rw [if_neg c3] at h
      refine rjt (a := (17, [(0, .ref 0), (1, .int x1), (2, .int x2)], [])) (b := (15, [(0, .ref 0), (1, .int x1), (2, .int x2)], [])) rfl rfl c3 ?_
      refine rsn 4 (t := (21, [(0, .ref 0), (1, .int x1), (2, .int x2)], [.ref 0, .int x2, .int x1, .ref 0])) rfl ?_
      refine pgI rfl rfl rfl (hSh.k 0 rfl _) ?_
      show RN xs L al (Ev xs L al d) 201 24 [(0, .ref 0), (1, .int x1), (2, .int x2)] [.int ((mI m 0 21)), .int x2, .int x1, .ref 0] (m, S) (some (.int r0)) (mf, S)
      refine rsn 1 (t := (25, [(0, .ref 0), (1, .int x1), (2, .int x2)], [.ref 0, .int ((mI m 0 21)), .int x2, .int x1, .ref 0])) rfl ?_
      refine pgI rfl rfl rfl (hSh.k 0 rfl _) ?_
      show RN xs L al (Ev xs L al d) 201 28 [(0, .ref 0), (1, .int x1), (2, .int x2)] [.int ((mI m 0 22)), .int ((mI m 0 21)), .int x2, .int x1, .ref 0] (m, S) (some (.int r0)) (mf, S)
      obtain ⟨r4, m4, g4, h⟩ := b2_some h
      refine rcV 193 0 [.int x1, .int x2, .int ((mI m 0 21)), .int ((mI m 0 22))] rfl rfl rfl (hSh.k 0 rfl _) (Nat.le_of_ble_eq_true rfl) rfl (e_Mo_solved N (by omega) hSh g4) ?_
      show RN xs L al (Ev xs L al d) 201 31 [(0, .ref 0), (1, .int x1), (2, .int x2)] [.long r4] (m4, S) (some (.int r0)) (mf, S)
      refine rsn 3 (t := (35, [(5, .int 0), (3, .long r4), (0, .ref 0), (1, .int x1), (2, .int x2)], [])) rfl ?_
      have ex35 : ∀ (z5_5 : Int32), (some ((-1), m4)) = some (r0, mf) → RN xs L al (Ev xs L al d) 201 90 [] [] (m4, S) (some (.int r0)) (mf, S) := by
        intro z5_5 h
        try dsimp only at h
        refine rsn 1 (t := (91, [], [.int ((-1))])) rfl ?_
        cases h
        exact rret rfl ⟨rfl, rfl, _, _, rfl, rfl, rfl, rfl⟩
      have lp35 : ∀ (n : Nat) (y6_5 : Int32), (f_Mo_best_L35 N r4 m4 (fun (z5_5 : Int32) => some ((-1), m4)) n y6_5) = some (r0, mf) → RN xs L al (Ev xs L al d) 201 35 [(0, .ref 0), (3, .long r4), (5, .int y6_5)] [] (m4, S) (some (.int r0)) (mf, S) := by
        intro n
        induction n with
        | zero => intro y6_5 h; exact absurd h (by simp [f_Mo_best_L35])
        | succ n35 ih35 =>
          intro y6_5 h
          try dsimp only at h
          rw [f_Mo_best_L35] at h
          try dsimp only at h
          exact rsub [(0, .ref 0), (3, .long r4), (5, .int y6_5)] ⟨rfl, ⟨rfl, ⟨rfl, trivial⟩⟩⟩ ⟨rfl, ⟨rfl, ⟨rfl, trivial⟩⟩⟩ (ih35 y6_5 h)
      exact rsub [(0, .ref 0), (3, .long r4), (5, .int 0)] ⟨rfl, ⟨rfl, ⟨rfl, trivial⟩⟩⟩ ⟨rfl, ⟨rfl, ⟨rfl, trivial⟩⟩⟩ (lp35 N 0 h)
def f_Mo_proof_L70 (N : Nat) (x2 : Int32) (m : Mm) (k70 : Int64 → Int32 → Int32 → Option (Int32 × Mm)) : Nat → Int64 → Int32 → Int32 → Option (Int32 × Mm)
  | 0, _, _, _ => none
  | n70 + 1, x5, x7, x8 => f_Mo_proof_L70 N x2 m k70 n70 x5 x7 x8
def f_Mo_proof (N : Nat) (x1 : Int32) (x2 : Int32) (m : Mm) : Option (Int32 × Mm) := (if ((mI m 0 15)) = 0 then some ((-1), m) else (if ((mI m 0 25)) = ((-1)) then b1 (f_Mo_isGoal N x1) fun r3 => (if r3 = 0 then some ((-1), m) else b1 (f_Mo_in N x2 0 ((((((mI m 0 18)) - ((mI m 0 24)))) - 1))) fun r5 => (if r5 = 0 then some ((-1), m) else b2 (f_Mo_solved N x1 0 ((mI m 0 21)) ((mI m 0 22)) m) fun r7 m7 => f_Mo_proof_L70 N x2 m7 (fun (z8_5 : Int64) (z8_7 : Int32) (z8_8 : Int32) => some (z8_7, m7)) N ((mJ m7 0 23)) ((-1)) 0)) else some ((-1), m)))
set_option maxRecDepth 20000 in
set_option maxHeartbeats 4000000 in
theorem e_Mo_proof {xs : Nat → Int32} {L : Nat} {al : Bool} (N : Nat) {d : Nat} (hd : 9 ≤ d) {S : St} (hSh : ShR S) {x1 : Int32} {x2 : Int32} {m : Mm} {r0 : Int32} {mf : Mm} (h : f_Mo_proof N x1 x2 m = some (r0, mf)) : Ev xs L al d 202 [.ref 0, .int x1, .int x2] (m, S) (some (.int r0)) (mf, S) := by
  obtain ⟨d, rfl⟩ : ∃ e, d = e + 1 := ⟨d - 1, by omega⟩
  refine ev_of (by decide) (Nat.le_of_ble_eq_true rfl) ?_
  rw [f_Mo_proof] at h
  show RN xs L al (Ev xs L al d) 202 0 [(0, .ref 0), (1, .int x1), (2, .int x2)] [] (m, S) (some (.int r0)) (mf, S)
  refine rsn 1 (t := (1, [(0, .ref 0), (1, .int x1), (2, .int x2)], [.ref 0])) rfl ?_
  refine pgI rfl rfl rfl (hSh.k 0 rfl _) ?_
  show RN xs L al (Ev xs L al d) 202 4 [(0, .ref 0), (1, .int x1), (2, .int x2)] [.int ((mI m 0 15))] (m, S) (some (.int r0)) (mf, S)
  by_cases c1 : ((mI m 0 15)) = 0
  · rw [if_pos c1] at h
    refine rjt (a := (41, [(0, .ref 0), (1, .int x1), (2, .int x2)], [])) (b := (7, [(0, .ref 0), (1, .int x1), (2, .int x2)], [])) rfl rfl c1 ?_
    refine rsn 1 (t := (42, [(0, .ref 0), (1, .int x1), (2, .int x2)], [.int ((-1))])) rfl ?_
    cases h
    exact rret rfl ⟨rfl, rfl, _, _, rfl, rfl, rfl, rfl⟩
  · rw [if_neg c1] at h
    refine rjf (a := (41, [(0, .ref 0), (1, .int x1), (2, .int x2)], [])) (b := (7, [(0, .ref 0), (1, .int x1), (2, .int x2)], [])) rfl rfl c1 ?_
    refine rsn 1 (t := (8, [(0, .ref 0), (1, .int x1), (2, .int x2)], [.ref 0])) rfl ?_
    refine pgI rfl rfl rfl (hSh.k 0 rfl _) ?_
    show RN xs L al (Ev xs L al d) 202 11 [(0, .ref 0), (1, .int x1), (2, .int x2)] [.int ((mI m 0 25))] (m, S) (some (.int r0)) (mf, S)
    refine rsn 1 (t := (12, [(0, .ref 0), (1, .int x1), (2, .int x2)], [.int ((-1)), .int ((mI m 0 25))])) rfl ?_
    by_cases c2 : ((mI m 0 25)) = ((-1))
    · rw [if_pos c2] at h
      refine rjf (a := (41, [(0, .ref 0), (1, .int x1), (2, .int x2)], [])) (b := (15, [(0, .ref 0), (1, .int x1), (2, .int x2)], [])) rfl rfl (fun q => q c2) ?_
      refine rsn 1 (t := (16, [(0, .ref 0), (1, .int x1), (2, .int x2)], [.int x1])) rfl ?_
      obtain ⟨r3, g3, h⟩ := b1_some h
      refine rcS 184 [.int x1] rfl rfl rfl (Nat.le_of_ble_eq_true rfl) rfl (e_Mo_isGoal N (by omega) g3) ?_
      show RN xs L al (Ev xs L al d) 202 19 [(0, .ref 0), (1, .int x1), (2, .int x2)] [.int r3] (m, S) (some (.int r0)) (mf, S)
      by_cases c4 : r3 = 0
      · rw [if_pos c4] at h
        refine rjt (a := (41, [(0, .ref 0), (1, .int x1), (2, .int x2)], [])) (b := (22, [(0, .ref 0), (1, .int x1), (2, .int x2)], [])) rfl rfl c4 ?_
        refine rsn 1 (t := (42, [(0, .ref 0), (1, .int x1), (2, .int x2)], [.int ((-1))])) rfl ?_
        cases h
        exact rret rfl ⟨rfl, rfl, _, _, rfl, rfl, rfl, rfl⟩
      · rw [if_neg c4] at h
        refine rjf (a := (41, [(0, .ref 0), (1, .int x1), (2, .int x2)], [])) (b := (22, [(0, .ref 0), (1, .int x1), (2, .int x2)], [])) rfl rfl c4 ?_
        refine rsn 3 (t := (25, [(0, .ref 0), (1, .int x1), (2, .int x2)], [.ref 0, .int 0, .int x2])) rfl ?_
        refine pgI rfl rfl rfl (hSh.k 0 rfl _) ?_
        show RN xs L al (Ev xs L al d) 202 28 [(0, .ref 0), (1, .int x1), (2, .int x2)] [.int ((mI m 0 18)), .int 0, .int x2] (m, S) (some (.int r0)) (mf, S)
        refine rsn 1 (t := (29, [(0, .ref 0), (1, .int x1), (2, .int x2)], [.ref 0, .int ((mI m 0 18)), .int 0, .int x2])) rfl ?_
        refine pgI rfl rfl rfl (hSh.k 0 rfl _) ?_
        show RN xs L al (Ev xs L al d) 202 32 [(0, .ref 0), (1, .int x1), (2, .int x2)] [.int ((mI m 0 24)), .int ((mI m 0 18)), .int 0, .int x2] (m, S) (some (.int r0)) (mf, S)
        refine rsn 3 (t := (35, [(0, .ref 0), (1, .int x1), (2, .int x2)], [.int ((((((mI m 0 18)) - ((mI m 0 24)))) - 1)), .int 0, .int x2])) rfl ?_
        obtain ⟨r5, g5, h⟩ := b1_some h
        refine rcS 146 [.int x2, .int 0, .int ((((((mI m 0 18)) - ((mI m 0 24)))) - 1))] rfl rfl rfl (Nat.le_of_ble_eq_true rfl) rfl (e_Mo_in N (by omega) g5) ?_
        show RN xs L al (Ev xs L al d) 202 38 [(0, .ref 0), (1, .int x1), (2, .int x2)] [.int r5] (m, S) (some (.int r0)) (mf, S)
        by_cases c6 : r5 = 0
        · rw [if_pos c6] at h
          refine rjf (a := (43, [(0, .ref 0), (1, .int x1), (2, .int x2)], [])) (b := (41, [(0, .ref 0), (1, .int x1), (2, .int x2)], [])) rfl rfl (fun q => q c6) ?_
          refine rsn 1 (t := (42, [(0, .ref 0), (1, .int x1), (2, .int x2)], [.int ((-1))])) rfl ?_
          cases h
          exact rret rfl ⟨rfl, rfl, _, _, rfl, rfl, rfl, rfl⟩
        · rw [if_neg c6] at h
          refine rjt (a := (43, [(0, .ref 0), (1, .int x1), (2, .int x2)], [])) (b := (41, [(0, .ref 0), (1, .int x1), (2, .int x2)], [])) rfl rfl c6 ?_
          refine rsn 4 (t := (47, [(0, .ref 0), (1, .int x1), (2, .int x2)], [.ref 0, .int 0, .int x1, .ref 0])) rfl ?_
          refine pgI rfl rfl rfl (hSh.k 0 rfl _) ?_
          show RN xs L al (Ev xs L al d) 202 50 [(0, .ref 0), (1, .int x1), (2, .int x2)] [.int ((mI m 0 21)), .int 0, .int x1, .ref 0] (m, S) (some (.int r0)) (mf, S)
          refine rsn 1 (t := (51, [(0, .ref 0), (1, .int x1), (2, .int x2)], [.ref 0, .int ((mI m 0 21)), .int 0, .int x1, .ref 0])) rfl ?_
          refine pgI rfl rfl rfl (hSh.k 0 rfl _) ?_
          show RN xs L al (Ev xs L al d) 202 54 [(0, .ref 0), (1, .int x1), (2, .int x2)] [.int ((mI m 0 22)), .int ((mI m 0 21)), .int 0, .int x1, .ref 0] (m, S) (some (.int r0)) (mf, S)
          obtain ⟨r7, m7, g7, h⟩ := b2_some h
          refine rcV 193 0 [.int x1, .int 0, .int ((mI m 0 21)), .int ((mI m 0 22))] rfl rfl rfl (hSh.k 0 rfl _) (Nat.le_of_ble_eq_true rfl) rfl (e_Mo_solved N (by omega) hSh g7) ?_
          show RN xs L al (Ev xs L al d) 202 57 [(0, .ref 0), (1, .int x1), (2, .int x2)] [.long r7] (m7, S) (some (.int r0)) (mf, S)
          refine rsn 2 (t := (59, [(3, .long r7), (0, .ref 0), (1, .int x1), (2, .int x2)], [.ref 0])) rfl ?_
          refine pgJ rfl rfl rfl (hSh.k 0 rfl _) ?_
          show RN xs L al (Ev xs L al d) 202 62 [(3, .long r7), (0, .ref 0), (1, .int x1), (2, .int x2)] [.long ((mJ m7 0 23))] (m7, S) (some (.int r0)) (mf, S)
          refine rsn 5 (t := (70, [(8, .int 0), (7, .int ((-1))), (5, .long ((mJ m7 0 23))), (3, .long r7), (0, .ref 0), (1, .int x1), (2, .int x2)], [])) rfl ?_
          have ex70 : ∀ (z8_5 : Int64) (z8_7 : Int32) (z8_8 : Int32), (some (z8_7, m7)) = some (r0, mf) → RN xs L al (Ev xs L al d) 202 289 [(7, .int z8_7)] [] (m7, S) (some (.int r0)) (mf, S) := by
            intro z8_5 z8_7 z8_8 h
            try dsimp only at h
            refine rsn 1 (t := (291, [(7, .int z8_7)], [.int z8_7])) rfl ?_
            cases h
            exact rret rfl ⟨rfl, rfl, _, _, rfl, rfl, rfl, rfl⟩
          have lp70 : ∀ (n : Nat) (y9_5 : Int64) (y9_7 : Int32) (y9_8 : Int32), (f_Mo_proof_L70 N x2 m7 (fun (z8_5 : Int64) (z8_7 : Int32) (z8_8 : Int32) => some (z8_7, m7)) n y9_5 y9_7 y9_8) = some (r0, mf) → RN xs L al (Ev xs L al d) 202 70 [(0, .ref 0), (2, .int x2), (5, .long y9_5), (7, .int y9_7), (8, .int y9_8)] [] (m7, S) (some (.int r0)) (mf, S) := by
            intro n
            induction n with
            | zero => intro y9_5 y9_7 y9_8 h; exact absurd h (by simp [f_Mo_proof_L70])
            | succ n70 ih70 =>
              intro y9_5 y9_7 y9_8 h
              try dsimp only at h
              rw [f_Mo_proof_L70] at h
              try dsimp only at h
              exact rsub [(0, .ref 0), (2, .int x2), (5, .long y9_5), (7, .int y9_7), (8, .int y9_8)] ⟨rfl, ⟨rfl, ⟨rfl, ⟨rfl, ⟨rfl, trivial⟩⟩⟩⟩⟩ ⟨rfl, ⟨rfl, ⟨rfl, ⟨rfl, ⟨rfl, trivial⟩⟩⟩⟩⟩ (ih70 y9_5 y9_7 y9_8 h)
          exact rsub [(0, .ref 0), (2, .int x2), (5, .long ((mJ m7 0 23))), (7, .int ((-1))), (8, .int 0)] ⟨rfl, ⟨rfl, ⟨rfl, ⟨rfl, ⟨rfl, trivial⟩⟩⟩⟩⟩ ⟨rfl, ⟨rfl, ⟨rfl, ⟨rfl, ⟨rfl, trivial⟩⟩⟩⟩⟩ (lp70 N ((mJ m7 0 23)) ((-1)) 0 h)
    · rw [if_neg c2] at h
      refine rjt (a := (41, [(0, .ref 0), (1, .int x1), (2, .int x2)], [])) (b := (15, [(0, .ref 0), (1, .int x1), (2, .int x2)], [])) rfl rfl c2 ?_
      refine rsn 1 (t := (42, [(0, .ref 0), (1, .int x1), (2, .int x2)], [.int ((-1))])) rfl ?_
      cases h
      exact rret rfl ⟨rfl, rfl, _, _, rfl, rfl, rfl, rfl⟩
def f_Mo_isRow_L4 (N : Nat) (x1 : Int32) (k4 : Int32 → Int32 → Mm → Option (Int32 × Mm)) : Nat → Int32 → Int32 → Mm → Option (Int32 × Mm)
  | 0, _, _, _ => none
  | n4 + 1, x2, x3, m => f_Mo_isRow_L4 N x1 k4 n4 x2 x3 m
def f_Mo_isRow (N : Nat) (x1 : Int32) (m : Mm) : Option (Int32 × Mm) := f_Mo_isRow_L4 N x1 (fun (z1_2 : Int32) (z1_3 : Int32) (m1 : Mm) => (if x1 < 0 then some (0, m1) else (if z1_2 = 0 then some (1, m1) else some (0, m1)))) N x1 0 m
set_option maxRecDepth 20000 in
set_option maxHeartbeats 4000000 in
theorem e_Mo_isRow {xs : Nat → Int32} {L : Nat} {al : Bool} (N : Nat) {d : Nat} (hd : 1 ≤ d) {S : St} (hSh : ShR S) {x1 : Int32} {m : Mm} {r0 : Int32} {mf : Mm} (h : f_Mo_isRow N x1 m = some (r0, mf)) : Ev xs L al d 205 [.ref 0, .int x1] (m, S) (some (.int r0)) (mf, S) := by
  obtain ⟨d, rfl⟩ : ∃ e, d = e + 1 := ⟨d - 1, by omega⟩
  refine ev_of (by decide) (Nat.le_of_ble_eq_true rfl) ?_
  rw [f_Mo_isRow] at h
  show RN xs L al (Ev xs L al d) 205 0 [(0, .ref 0), (1, .int x1)] [] (m, S) (some (.int r0)) (mf, S)
  refine rsn 4 (t := (4, [(3, .int 0), (2, .int x1), (0, .ref 0), (1, .int x1)], [])) rfl ?_
  have ex4 : ∀ (z1_2 : Int32) (z1_3 : Int32) (m1 : Mm), ((if x1 < 0 then some (0, m1) else (if z1_2 = 0 then some (1, m1) else some (0, m1)))) = some (r0, mf) → RN xs L al (Ev xs L al d) 205 36 [(1, .int x1), (2, .int z1_2)] [] (m1, S) (some (.int r0)) (mf, S) := by
    intro z1_2 z1_3 m1 h
    try dsimp only at h
    refine rsn 1 (t := (37, [(1, .int x1), (2, .int z1_2)], [.int x1])) rfl ?_
    by_cases c2 : x1 < 0
    · rw [if_pos c2] at h
      refine rjt (a := (48, [(1, .int x1), (2, .int z1_2)], [])) (b := (40, [(1, .int x1), (2, .int z1_2)], [])) rfl rfl c2 ?_
      refine rsn 1 (t := (49, [(1, .int x1), (2, .int z1_2)], [.int 0])) rfl ?_
      cases h
      exact rret rfl ⟨rfl, rfl, _, _, rfl, rfl, rfl, rfl⟩
    · rw [if_neg c2] at h
      refine rjf (a := (48, [(1, .int x1), (2, .int z1_2)], [])) (b := (40, [(1, .int x1), (2, .int z1_2)], [])) rfl rfl c2 ?_
      refine rsn 1 (t := (41, [(1, .int x1), (2, .int z1_2)], [.int z1_2])) rfl ?_
      by_cases c3 : z1_2 = 0
      · rw [if_pos c3] at h
        refine rjf (a := (48, [(1, .int x1), (2, .int z1_2)], [])) (b := (44, [(1, .int x1), (2, .int z1_2)], [])) rfl rfl (fun q => q c3) ?_
        refine rsn 2 (t := (49, [(1, .int x1), (2, .int z1_2)], [.int 1])) rfl ?_
        cases h
        exact rret rfl ⟨rfl, rfl, _, _, rfl, rfl, rfl, rfl⟩
      · rw [if_neg c3] at h
        refine rjt (a := (48, [(1, .int x1), (2, .int z1_2)], [])) (b := (44, [(1, .int x1), (2, .int z1_2)], [])) rfl rfl c3 ?_
        refine rsn 1 (t := (49, [(1, .int x1), (2, .int z1_2)], [.int 0])) rfl ?_
        cases h
        exact rret rfl ⟨rfl, rfl, _, _, rfl, rfl, rfl, rfl⟩
  have lp4 : ∀ (n : Nat) (y4_2 : Int32) (y4_3 : Int32) (m4 : Mm), (f_Mo_isRow_L4 N x1 (fun (z1_2 : Int32) (z1_3 : Int32) (m1 : Mm) => (if x1 < 0 then some (0, m1) else (if z1_2 = 0 then some (1, m1) else some (0, m1)))) n y4_2 y4_3 m4) = some (r0, mf) → RN xs L al (Ev xs L al d) 205 4 [(0, .ref 0), (1, .int x1), (2, .int y4_2), (3, .int y4_3)] [] (m4, S) (some (.int r0)) (mf, S) := by
    intro n
    induction n with
    | zero => intro y4_2 y4_3 m4 h; exact absurd h (by simp [f_Mo_isRow_L4])
    | succ n4 ih4 =>
      intro y4_2 y4_3 m4 h
      try dsimp only at h
      rw [f_Mo_isRow_L4] at h
      try dsimp only at h
      exact rsub [(0, .ref 0), (1, .int x1), (2, .int y4_2), (3, .int y4_3)] ⟨rfl, ⟨rfl, ⟨rfl, ⟨rfl, trivial⟩⟩⟩⟩ ⟨rfl, ⟨rfl, ⟨rfl, ⟨rfl, trivial⟩⟩⟩⟩ (ih4 y4_2 y4_3 m4 h)
  exact rsub [(0, .ref 0), (1, .int x1), (2, .int x1), (3, .int 0)] ⟨rfl, ⟨rfl, ⟨rfl, ⟨rfl, trivial⟩⟩⟩⟩ ⟨rfl, ⟨rfl, ⟨rfl, ⟨rfl, trivial⟩⟩⟩⟩ (lp4 N x1 0 m h)
def f_Mo_isAltRow_L12 (N : Nat) (m : Mm) (k12 : Int32 → Option (Int32 × Mm)) : Nat → Int32 → Option (Int32 × Mm)
  | 0, _ => none
  | n12 + 1, x2 => f_Mo_isAltRow_L12 N m k12 n12 x2
def f_Mo_isAltRow (N : Nat) (x1 : Int32) (m : Mm) : Option (Int32 × Mm) := b2 (f_Mo_isRow N x1 m) fun r1 m1 => (if r1 = 0 then some (0, m1) else f_Mo_isAltRow_L12 N m1 (fun (z3_2 : Int32) => some (1, m1)) N 0)
set_option maxRecDepth 20000 in
set_option maxHeartbeats 4000000 in
theorem e_Mo_isAltRow {xs : Nat → Int32} {L : Nat} {al : Bool} (N : Nat) {d : Nat} (hd : 2 ≤ d) {S : St} (hSh : ShR S) {x1 : Int32} {m : Mm} {r0 : Int32} {mf : Mm} (h : f_Mo_isAltRow N x1 m = some (r0, mf)) : Ev xs L al d 204 [.ref 0, .int x1] (m, S) (some (.int r0)) (mf, S) := by
  obtain ⟨d, rfl⟩ : ∃ e, d = e + 1 := ⟨d - 1, by omega⟩
  refine ev_of (by decide) (Nat.le_of_ble_eq_true rfl) ?_
  rw [f_Mo_isAltRow] at h
  show RN xs L al (Ev xs L al d) 204 0 [(0, .ref 0), (1, .int x1)] [] (m, S) (some (.int r0)) (mf, S)
  refine rsn 2 (t := (2, [(0, .ref 0), (1, .int x1)], [.int x1, .ref 0])) rfl ?_
  obtain ⟨r1, m1, g1, h⟩ := b2_some h
  refine rcV 205 0 [.int x1] rfl rfl rfl (hSh.k 0 rfl _) (Nat.le_of_ble_eq_true rfl) rfl (e_Mo_isRow N (by omega) hSh g1) ?_
  show RN xs L al (Ev xs L al d) 204 5 [(0, .ref 0), (1, .int x1)] [.int r1] (m1, S) (some (.int r0)) (mf, S)
  by_cases c2 : r1 = 0
  · rw [if_pos c2] at h
    refine rjf (a := (10, [(0, .ref 0), (1, .int x1)], [])) (b := (8, [(0, .ref 0), (1, .int x1)], [])) rfl rfl (fun q => q c2) ?_
    refine rsn 1 (t := (9, [(0, .ref 0), (1, .int x1)], [.int 0])) rfl ?_
    cases h
    exact rret rfl ⟨rfl, rfl, _, _, rfl, rfl, rfl, rfl⟩
  · rw [if_neg c2] at h
    refine rjt (a := (10, [(0, .ref 0), (1, .int x1)], [])) (b := (8, [(0, .ref 0), (1, .int x1)], [])) rfl rfl c2 ?_
    refine rsn 2 (t := (12, [(2, .int 0), (0, .ref 0), (1, .int x1)], [])) rfl ?_
    have ex12 : ∀ (z3_2 : Int32), (some (1, m1)) = some (r0, mf) → RN xs L al (Ev xs L al d) 204 53 [] [] (m1, S) (some (.int r0)) (mf, S) := by
      intro z3_2 h
      try dsimp only at h
      refine rsn 1 (t := (54, [], [.int 1])) rfl ?_
      cases h
      exact rret rfl ⟨rfl, rfl, _, _, rfl, rfl, rfl, rfl⟩
    have lp12 : ∀ (n : Nat) (y4_2 : Int32), (f_Mo_isAltRow_L12 N m1 (fun (z3_2 : Int32) => some (1, m1)) n y4_2) = some (r0, mf) → RN xs L al (Ev xs L al d) 204 12 [(0, .ref 0), (2, .int y4_2)] [] (m1, S) (some (.int r0)) (mf, S) := by
      intro n
      induction n with
      | zero => intro y4_2 h; exact absurd h (by simp [f_Mo_isAltRow_L12])
      | succ n12 ih12 =>
        intro y4_2 h
        try dsimp only at h
        rw [f_Mo_isAltRow_L12] at h
        try dsimp only at h
        exact rsub [(0, .ref 0), (2, .int y4_2)] ⟨rfl, ⟨rfl, trivial⟩⟩ ⟨rfl, ⟨rfl, trivial⟩⟩ (ih12 y4_2 h)
    exact rsub [(0, .ref 0), (2, .int 0)] ⟨rfl, ⟨rfl, trivial⟩⟩ ⟨rfl, ⟨rfl, trivial⟩⟩ (lp12 N 0 h)
def f_Mo_knownBy_L2 (N : Nat) (x1 : Int32) (k2 : Int32 → Mm → Option (Int32 × Mm)) : Nat → Int32 → Mm → Option (Int32 × Mm)
  | 0, _, _ => none
  | n2 + 1, x2, m => f_Mo_knownBy_L2 N x1 k2 n2 x2 m
def f_Mo_knownBy_L39 (N : Nat) (x1 : Int32) (k39 : Int32 → Int32 → Mm → Option (Int32 × Mm)) : Nat → Int32 → Int32 → Mm → Option (Int32 × Mm)
  | 0, _, _, _ => none
  | n39 + 1, x2, x3, m => f_Mo_knownBy_L39 N x1 k39 n39 x2 x3 m
def f_Mo_knownBy_L226 (N : Nat) (x1 : Int32) (k226 : Int32 → Int32 → Mm → Option (Int32 × Mm)) : Nat → Int32 → Int32 → Mm → Option (Int32 × Mm)
  | 0, _, _, _ => none
  | n226 + 1, x3, x4, m => f_Mo_knownBy_L226 N x1 k226 n226 x3 x4 m
def f_Mo_knownBy (N : Nat) (x1 : Int32) (m : Mm) : Option (Int32 × Mm) := f_Mo_knownBy_L2 N x1 (fun (z1_2 : Int32) (m1 : Mm) => b3 (f_Mo_lays N ((mJ m1 0 23)) 0 (vI m1 0 40 0)) fun m2 => f_Mo_knownBy_L39 N x1 (fun (z3_2 : Int32) (z3_3 : Int32) (m3 : Mm) => f_Mo_knownBy_L226 N x1 (fun (z4_3 : Int32) (z4_4 : Int32) (m4 : Mm) => some (z4_3, m4)) N ((-2147483648)) z3_2 m3) N 0 0 m2) N 0 m
set_option maxRecDepth 20000 in
set_option maxHeartbeats 4000000 in
theorem e_Mo_knownBy {xs : Nat → Int32} {L : Nat} {al : Bool} (N : Nat) {d : Nat} (hd : 8 ≤ d) {S : St} (hSh : ShR S) {x1 : Int32} {m : Mm} {r0 : Int32} {mf : Mm} (h : f_Mo_knownBy N x1 m = some (r0, mf)) : Ev xs L al d 206 [.ref 0, .int x1] (m, S) (some (.int r0)) (mf, S) := by
  obtain ⟨d, rfl⟩ : ∃ e, d = e + 1 := ⟨d - 1, by omega⟩
  refine ev_of (by decide) (Nat.le_of_ble_eq_true rfl) ?_
  rw [f_Mo_knownBy] at h
  show RN xs L al (Ev xs L al d) 206 0 [(0, .ref 0), (1, .int x1)] [] (m, S) (some (.int r0)) (mf, S)
  refine rsn 2 (t := (2, [(2, .int 0), (0, .ref 0), (1, .int x1)], [])) rfl ?_
  have ex2 : ∀ (z1_2 : Int32) (m1 : Mm), (b3 (f_Mo_lays N ((mJ m1 0 23)) 0 (vI m1 0 40 0)) fun m2 => f_Mo_knownBy_L39 N x1 (fun (z3_2 : Int32) (z3_3 : Int32) (m3 : Mm) => f_Mo_knownBy_L226 N x1 (fun (z4_3 : Int32) (z4_4 : Int32) (m4 : Mm) => some (z4_3, m4)) N ((-2147483648)) z3_2 m3) N 0 0 m2) = some (r0, mf) → RN xs L al (Ev xs L al d) 206 21 [(0, .ref 0), (1, .int x1)] [] (m1, S) (some (.int r0)) (mf, S) := by
    intro z1_2 m1 h
    try dsimp only at h
    refine rsn 2 (t := (23, [(0, .ref 0), (1, .int x1)], [.int 0, .ref 0])) rfl ?_
    refine ppI rfl rfl rfl rfl (hSh.k 0 rfl _) ?_
    refine rsn 2 (t := (28, [(0, .ref 0), (1, .int x1)], [.ref 0, .ref 0])) rfl ?_
    refine pgJ rfl rfl rfl (hSh.k 0 rfl _) ?_
    show RN xs L al (Ev xs L al d) 206 31 [(0, .ref 0), (1, .int x1)] [.long ((mJ m1 0 23)), .ref 0] ((vI m1 0 40 0), S) (some (.int r0)) (mf, S)
    refine rsn 1 (t := (32, [(0, .ref 0), (1, .int x1)], [.int 0, .long ((mJ m1 0 23)), .ref 0])) rfl ?_
    obtain ⟨m2, g2, h⟩ := b3_some h
    refine rcV 195 0 [.long ((mJ m1 0 23)), .int 0] rfl rfl rfl (hSh.k 0 rfl _) (Nat.le_of_ble_eq_true rfl) rfl (e_Mo_lays N (by omega) hSh g2) ?_
    show RN xs L al (Ev xs L al d) 206 35 [(0, .ref 0), (1, .int x1)] [] (m2, S) (some (.int r0)) (mf, S)
    refine rsn 4 (t := (39, [(3, .int 0), (2, .int 0), (0, .ref 0), (1, .int x1)], [])) rfl ?_
    have ex39 : ∀ (z3_2 : Int32) (z3_3 : Int32) (m3 : Mm), (f_Mo_knownBy_L226 N x1 (fun (z4_3 : Int32) (z4_4 : Int32) (m4 : Mm) => some (z4_3, m4)) N ((-2147483648)) z3_2 m3) = some (r0, mf) → RN xs L al (Ev xs L al d) 206 219 [(0, .ref 0), (1, .int x1), (2, .int z3_2)] [] (m3, S) (some (.int r0)) (mf, S) := by
      intro z3_2 z3_3 m3 h
      try dsimp only at h
      refine rsn 4 (t := (226, [(4, .int z3_2), (3, .int ((-2147483648))), (0, .ref 0), (1, .int x1), (2, .int z3_2)], [])) rfl ?_
      have ex226 : ∀ (z4_3 : Int32) (z4_4 : Int32) (m4 : Mm), (some (z4_3, m4)) = some (r0, mf) → RN xs L al (Ev xs L al d) 206 272 [(3, .int z4_3)] [] (m4, S) (some (.int r0)) (mf, S) := by
        intro z4_3 z4_4 m4 h
        try dsimp only at h
        refine rsn 1 (t := (273, [(3, .int z4_3)], [.int z4_3])) rfl ?_
        cases h
        exact rret rfl ⟨rfl, rfl, _, _, rfl, rfl, rfl, rfl⟩
      have lp226 : ∀ (n : Nat) (y5_3 : Int32) (y5_4 : Int32) (m5 : Mm), (f_Mo_knownBy_L226 N x1 (fun (z4_3 : Int32) (z4_4 : Int32) (m4 : Mm) => some (z4_3, m4)) n y5_3 y5_4 m5) = some (r0, mf) → RN xs L al (Ev xs L al d) 206 226 [(0, .ref 0), (1, .int x1), (3, .int y5_3), (4, .int y5_4)] [] (m5, S) (some (.int r0)) (mf, S) := by
        intro n
        induction n with
        | zero => intro y5_3 y5_4 m5 h; exact absurd h (by simp [f_Mo_knownBy_L226])
        | succ n226 ih226 =>
          intro y5_3 y5_4 m5 h
          try dsimp only at h
          rw [f_Mo_knownBy_L226] at h
          try dsimp only at h
          exact rsub [(0, .ref 0), (1, .int x1), (3, .int y5_3), (4, .int y5_4)] ⟨rfl, ⟨rfl, ⟨rfl, ⟨rfl, trivial⟩⟩⟩⟩ ⟨rfl, ⟨rfl, ⟨rfl, ⟨rfl, trivial⟩⟩⟩⟩ (ih226 y5_3 y5_4 m5 h)
      exact rsub [(0, .ref 0), (1, .int x1), (3, .int ((-2147483648))), (4, .int z3_2)] ⟨rfl, ⟨rfl, ⟨rfl, ⟨rfl, trivial⟩⟩⟩⟩ ⟨rfl, ⟨rfl, ⟨rfl, ⟨rfl, trivial⟩⟩⟩⟩ (lp226 N ((-2147483648)) z3_2 m3 h)
    have lp39 : ∀ (n : Nat) (y6_2 : Int32) (y6_3 : Int32) (m6 : Mm), (f_Mo_knownBy_L39 N x1 (fun (z3_2 : Int32) (z3_3 : Int32) (m3 : Mm) => f_Mo_knownBy_L226 N x1 (fun (z4_3 : Int32) (z4_4 : Int32) (m4 : Mm) => some (z4_3, m4)) N ((-2147483648)) z3_2 m3) n y6_2 y6_3 m6) = some (r0, mf) → RN xs L al (Ev xs L al d) 206 39 [(0, .ref 0), (1, .int x1), (2, .int y6_2), (3, .int y6_3)] [] (m6, S) (some (.int r0)) (mf, S) := by
      intro n
      induction n with
      | zero => intro y6_2 y6_3 m6 h; exact absurd h (by simp [f_Mo_knownBy_L39])
      | succ n39 ih39 =>
        intro y6_2 y6_3 m6 h
        try dsimp only at h
        rw [f_Mo_knownBy_L39] at h
        try dsimp only at h
        exact rsub [(0, .ref 0), (1, .int x1), (2, .int y6_2), (3, .int y6_3)] ⟨rfl, ⟨rfl, ⟨rfl, ⟨rfl, trivial⟩⟩⟩⟩ ⟨rfl, ⟨rfl, ⟨rfl, ⟨rfl, trivial⟩⟩⟩⟩ (ih39 y6_2 y6_3 m6 h)
    exact rsub [(0, .ref 0), (1, .int x1), (2, .int 0), (3, .int 0)] ⟨rfl, ⟨rfl, ⟨rfl, ⟨rfl, trivial⟩⟩⟩⟩ ⟨rfl, ⟨rfl, ⟨rfl, ⟨rfl, trivial⟩⟩⟩⟩ (lp39 N 0 0 m2 h)
  have lp2 : ∀ (n : Nat) (y7_2 : Int32) (m7 : Mm), (f_Mo_knownBy_L2 N x1 (fun (z1_2 : Int32) (m1 : Mm) => b3 (f_Mo_lays N ((mJ m1 0 23)) 0 (vI m1 0 40 0)) fun m2 => f_Mo_knownBy_L39 N x1 (fun (z3_2 : Int32) (z3_3 : Int32) (m3 : Mm) => f_Mo_knownBy_L226 N x1 (fun (z4_3 : Int32) (z4_4 : Int32) (m4 : Mm) => some (z4_3, m4)) N ((-2147483648)) z3_2 m3) N 0 0 m2) n y7_2 m7) = some (r0, mf) → RN xs L al (Ev xs L al d) 206 2 [(0, .ref 0), (1, .int x1), (2, .int y7_2)] [] (m7, S) (some (.int r0)) (mf, S) := by
    intro n
    induction n with
    | zero => intro y7_2 m7 h; exact absurd h (by simp [f_Mo_knownBy_L2])
    | succ n2 ih2 =>
      intro y7_2 m7 h
      try dsimp only at h
      rw [f_Mo_knownBy_L2] at h
      try dsimp only at h
      exact rsub [(0, .ref 0), (1, .int x1), (2, .int y7_2)] ⟨rfl, ⟨rfl, ⟨rfl, trivial⟩⟩⟩ ⟨rfl, ⟨rfl, ⟨rfl, trivial⟩⟩⟩ (ih2 y7_2 m7 h)
  exact rsub [(0, .ref 0), (1, .int x1), (2, .int 0)] ⟨rfl, ⟨rfl, ⟨rfl, trivial⟩⟩⟩ ⟨rfl, ⟨rfl, ⟨rfl, trivial⟩⟩⟩ (lp2 N 0 m h)
def f_Mo_known (N : Nat) (x1 : Int32) (x2 : Int32) (m : Mm) : Option (Int32 × Mm) := (if ((mI m 0 15)) = 0 then some ((-2147483648), m) else b1 (f_Mo_isGoal N x1) fun r2 => (if r2 = 0 then some ((-2147483648), m) else (if ((mI m 0 25)) = ((-1)) then b2 (f_Mo_isAltRow N x2 m) fun r5 m5 => (if r5 = 0 then some ((-2147483648), m5) else b2 (f_Mo_knownBy N x1 m5) fun r7 m7 => some (r7, m7)) else some ((-2147483648), m))))
set_option maxRecDepth 20000 in
set_option maxHeartbeats 4000000 in
theorem e_Mo_known {xs : Nat → Int32} {L : Nat} {al : Bool} (N : Nat) {d : Nat} (hd : 9 ≤ d) {S : St} (hSh : ShR S) {x1 : Int32} {x2 : Int32} {m : Mm} {r0 : Int32} {mf : Mm} (h : f_Mo_known N x1 x2 m = some (r0, mf)) : Ev xs L al d 203 [.ref 0, .int x1, .int x2] (m, S) (some (.int r0)) (mf, S) := by
  obtain ⟨d, rfl⟩ : ∃ e, d = e + 1 := ⟨d - 1, by omega⟩
  refine ev_of (by decide) (Nat.le_of_ble_eq_true rfl) ?_
  rw [f_Mo_known] at h
  show RN xs L al (Ev xs L al d) 203 0 [(0, .ref 0), (1, .int x1), (2, .int x2)] [] (m, S) (some (.int r0)) (mf, S)
  refine rsn 1 (t := (1, [(0, .ref 0), (1, .int x1), (2, .int x2)], [.ref 0])) rfl ?_
  refine pgI rfl rfl rfl (hSh.k 0 rfl _) ?_
  show RN xs L al (Ev xs L al d) 203 4 [(0, .ref 0), (1, .int x1), (2, .int x2)] [.int ((mI m 0 15))] (m, S) (some (.int r0)) (mf, S)
  by_cases c1 : ((mI m 0 15)) = 0
  · rw [if_pos c1] at h
    refine rjt (a := (38, [(0, .ref 0), (1, .int x1), (2, .int x2)], [])) (b := (7, [(0, .ref 0), (1, .int x1), (2, .int x2)], [])) rfl rfl c1 ?_
    refine rsn 1 (t := (41, [(0, .ref 0), (1, .int x1), (2, .int x2)], [.int ((-2147483648))])) rfl ?_
    cases h
    exact rret rfl ⟨rfl, rfl, _, _, rfl, rfl, rfl, rfl⟩
  · rw [if_neg c1] at h
    refine rjf (a := (38, [(0, .ref 0), (1, .int x1), (2, .int x2)], [])) (b := (7, [(0, .ref 0), (1, .int x1), (2, .int x2)], [])) rfl rfl c1 ?_
    refine rsn 1 (t := (8, [(0, .ref 0), (1, .int x1), (2, .int x2)], [.int x1])) rfl ?_
    obtain ⟨r2, g2, h⟩ := b1_some h
    refine rcS 184 [.int x1] rfl rfl rfl (Nat.le_of_ble_eq_true rfl) rfl (e_Mo_isGoal N (by omega) g2) ?_
    show RN xs L al (Ev xs L al d) 203 11 [(0, .ref 0), (1, .int x1), (2, .int x2)] [.int r2] (m, S) (some (.int r0)) (mf, S)
    by_cases c3 : r2 = 0
    · rw [if_pos c3] at h
      refine rjt (a := (38, [(0, .ref 0), (1, .int x1), (2, .int x2)], [])) (b := (14, [(0, .ref 0), (1, .int x1), (2, .int x2)], [])) rfl rfl c3 ?_
      refine rsn 1 (t := (41, [(0, .ref 0), (1, .int x1), (2, .int x2)], [.int ((-2147483648))])) rfl ?_
      cases h
      exact rret rfl ⟨rfl, rfl, _, _, rfl, rfl, rfl, rfl⟩
    · rw [if_neg c3] at h
      refine rjf (a := (38, [(0, .ref 0), (1, .int x1), (2, .int x2)], [])) (b := (14, [(0, .ref 0), (1, .int x1), (2, .int x2)], [])) rfl rfl c3 ?_
      refine rsn 1 (t := (15, [(0, .ref 0), (1, .int x1), (2, .int x2)], [.ref 0])) rfl ?_
      refine pgI rfl rfl rfl (hSh.k 0 rfl _) ?_
      show RN xs L al (Ev xs L al d) 203 18 [(0, .ref 0), (1, .int x1), (2, .int x2)] [.int ((mI m 0 25))] (m, S) (some (.int r0)) (mf, S)
      refine rsn 1 (t := (19, [(0, .ref 0), (1, .int x1), (2, .int x2)], [.int ((-1)), .int ((mI m 0 25))])) rfl ?_
      by_cases c4 : ((mI m 0 25)) = ((-1))
      · rw [if_pos c4] at h
        refine rjf (a := (38, [(0, .ref 0), (1, .int x1), (2, .int x2)], [])) (b := (22, [(0, .ref 0), (1, .int x1), (2, .int x2)], [])) rfl rfl (fun q => q c4) ?_
        refine rsn 2 (t := (24, [(0, .ref 0), (1, .int x1), (2, .int x2)], [.int x2, .ref 0])) rfl ?_
        obtain ⟨r5, m5, g5, h⟩ := b2_some h
        refine rcV 204 0 [.int x2] rfl rfl rfl (hSh.k 0 rfl _) (Nat.le_of_ble_eq_true rfl) rfl (e_Mo_isAltRow N (by omega) hSh g5) ?_
        show RN xs L al (Ev xs L al d) 203 27 [(0, .ref 0), (1, .int x1), (2, .int x2)] [.int r5] (m5, S) (some (.int r0)) (mf, S)
        by_cases c6 : r5 = 0
        · rw [if_pos c6] at h
          refine rjt (a := (38, [(0, .ref 0), (1, .int x1), (2, .int x2)], [])) (b := (30, [(0, .ref 0), (1, .int x1), (2, .int x2)], [])) rfl rfl c6 ?_
          refine rsn 1 (t := (41, [(0, .ref 0), (1, .int x1), (2, .int x2)], [.int ((-2147483648))])) rfl ?_
          cases h
          exact rret rfl ⟨rfl, rfl, _, _, rfl, rfl, rfl, rfl⟩
        · rw [if_neg c6] at h
          refine rjf (a := (38, [(0, .ref 0), (1, .int x1), (2, .int x2)], [])) (b := (30, [(0, .ref 0), (1, .int x1), (2, .int x2)], [])) rfl rfl c6 ?_
          refine rsn 2 (t := (32, [(0, .ref 0), (1, .int x1), (2, .int x2)], [.int x1, .ref 0])) rfl ?_
          obtain ⟨r7, m7, g7, h⟩ := b2_some h
          refine rcV 206 0 [.int x1] rfl rfl rfl (hSh.k 0 rfl _) (Nat.le_of_ble_eq_true rfl) rfl (e_Mo_knownBy N (by omega) hSh g7) ?_
          show RN xs L al (Ev xs L al d) 203 35 [(0, .ref 0), (1, .int x1), (2, .int x2)] [.int r7] (m7, S) (some (.int r0)) (mf, S)
          refine rsn 1 (t := (41, [(0, .ref 0), (1, .int x1), (2, .int x2)], [.int r7])) rfl ?_
          cases h
          exact rret rfl ⟨rfl, rfl, _, _, rfl, rfl, rfl, rfl⟩
      · rw [if_neg c4] at h
        refine rjt (a := (38, [(0, .ref 0), (1, .int x1), (2, .int x2)], [])) (b := (22, [(0, .ref 0), (1, .int x1), (2, .int x2)], [])) rfl rfl c4 ?_
        refine rsn 1 (t := (41, [(0, .ref 0), (1, .int x1), (2, .int x2)], [.int ((-2147483648))])) rfl ?_
        cases h
        exact rret rfl ⟨rfl, rfl, _, _, rfl, rfl, rfl, rfl⟩
def f_Mo_cost_L49 (N : Nat) (x1 : Int32) (x2 : Int32) (k49 : Int32 → Int32 → Mm → Option (Int32 × Mm)) : Nat → Int32 → Int32 → Mm → Option (Int32 × Mm)
  | 0, _, _, _ => none
  | n49 + 1, x3, x4, m => f_Mo_cost_L49 N x1 x2 k49 n49 x3 x4 m
def f_Mo_cost (N : Nat) (x1 : Int32) (m : Mm) : Option (Int32 × Mm) := (if ((mI m 0 15)) = 0 then some ((-2147483648), m) else b1 (f_Mo_isGoal N x1) fun r2 => (if r2 = 0 then some ((-2147483648), m) else (if ((mI m 0 25)) = ((-1)) then b2 (f_Mo_solved N x1 0 ((mI m 0 21)) ((mI m 0 22)) m) fun r5 m5 => f_Mo_cost_L49 N x1 r5.toInt32 (fun (z6_3 : Int32) (z6_4 : Int32) (m6 : Mm) => some ((z6_3 - r5.toInt32), m6)) N ((-2147483648)) 0 m5 else some ((-2147483648), m))))
set_option maxRecDepth 20000 in
set_option maxHeartbeats 4000000 in
theorem e_Mo_cost {xs : Nat → Int32} {L : Nat} {al : Bool} (N : Nat) {d : Nat} (hd : 9 ≤ d) {S : St} (hSh : ShR S) {x1 : Int32} {m : Mm} {r0 : Int32} {mf : Mm} (h : f_Mo_cost N x1 m = some (r0, mf)) : Ev xs L al d 207 [.ref 0, .int x1] (m, S) (some (.int r0)) (mf, S) := by
  obtain ⟨d, rfl⟩ : ∃ e, d = e + 1 := ⟨d - 1, by omega⟩
  refine ev_of (by decide) (Nat.le_of_ble_eq_true rfl) ?_
  rw [f_Mo_cost] at h
  show RN xs L al (Ev xs L al d) 207 0 [(0, .ref 0), (1, .int x1)] [] (m, S) (some (.int r0)) (mf, S)
  refine rsn 1 (t := (1, [(0, .ref 0), (1, .int x1)], [.ref 0])) rfl ?_
  refine pgI rfl rfl rfl (hSh.k 0 rfl _) ?_
  show RN xs L al (Ev xs L al d) 207 4 [(0, .ref 0), (1, .int x1)] [.int ((mI m 0 15))] (m, S) (some (.int r0)) (mf, S)
  by_cases c1 : ((mI m 0 15)) = 0
  · rw [if_pos c1] at h
    refine rjt (a := (22, [(0, .ref 0), (1, .int x1)], [])) (b := (7, [(0, .ref 0), (1, .int x1)], [])) rfl rfl c1 ?_
    refine rsn 1 (t := (25, [(0, .ref 0), (1, .int x1)], [.int ((-2147483648))])) rfl ?_
    cases h
    exact rret rfl ⟨rfl, rfl, _, _, rfl, rfl, rfl, rfl⟩
  · rw [if_neg c1] at h
    refine rjf (a := (22, [(0, .ref 0), (1, .int x1)], [])) (b := (7, [(0, .ref 0), (1, .int x1)], [])) rfl rfl c1 ?_
    refine rsn 1 (t := (8, [(0, .ref 0), (1, .int x1)], [.int x1])) rfl ?_
    obtain ⟨r2, g2, h⟩ := b1_some h
    refine rcS 184 [.int x1] rfl rfl rfl (Nat.le_of_ble_eq_true rfl) rfl (e_Mo_isGoal N (by omega) g2) ?_
    show RN xs L al (Ev xs L al d) 207 11 [(0, .ref 0), (1, .int x1)] [.int r2] (m, S) (some (.int r0)) (mf, S)
    by_cases c3 : r2 = 0
    · rw [if_pos c3] at h
      refine rjt (a := (22, [(0, .ref 0), (1, .int x1)], [])) (b := (14, [(0, .ref 0), (1, .int x1)], [])) rfl rfl c3 ?_
      refine rsn 1 (t := (25, [(0, .ref 0), (1, .int x1)], [.int ((-2147483648))])) rfl ?_
      cases h
      exact rret rfl ⟨rfl, rfl, _, _, rfl, rfl, rfl, rfl⟩
    · rw [if_neg c3] at h
      refine rjf (a := (22, [(0, .ref 0), (1, .int x1)], [])) (b := (14, [(0, .ref 0), (1, .int x1)], [])) rfl rfl c3 ?_
      refine rsn 1 (t := (15, [(0, .ref 0), (1, .int x1)], [.ref 0])) rfl ?_
      refine pgI rfl rfl rfl (hSh.k 0 rfl _) ?_
      show RN xs L al (Ev xs L al d) 207 18 [(0, .ref 0), (1, .int x1)] [.int ((mI m 0 25))] (m, S) (some (.int r0)) (mf, S)
      refine rsn 1 (t := (19, [(0, .ref 0), (1, .int x1)], [.int ((-1)), .int ((mI m 0 25))])) rfl ?_
      by_cases c4 : ((mI m 0 25)) = ((-1))
      · rw [if_pos c4] at h
        refine rjt (a := (26, [(0, .ref 0), (1, .int x1)], [])) (b := (22, [(0, .ref 0), (1, .int x1)], [])) rfl rfl c4 ?_
        refine rsn 4 (t := (30, [(0, .ref 0), (1, .int x1)], [.ref 0, .int 0, .int x1, .ref 0])) rfl ?_
        refine pgI rfl rfl rfl (hSh.k 0 rfl _) ?_
        show RN xs L al (Ev xs L al d) 207 33 [(0, .ref 0), (1, .int x1)] [.int ((mI m 0 21)), .int 0, .int x1, .ref 0] (m, S) (some (.int r0)) (mf, S)
        refine rsn 1 (t := (34, [(0, .ref 0), (1, .int x1)], [.ref 0, .int ((mI m 0 21)), .int 0, .int x1, .ref 0])) rfl ?_
        refine pgI rfl rfl rfl (hSh.k 0 rfl _) ?_
        show RN xs L al (Ev xs L al d) 207 37 [(0, .ref 0), (1, .int x1)] [.int ((mI m 0 22)), .int ((mI m 0 21)), .int 0, .int x1, .ref 0] (m, S) (some (.int r0)) (mf, S)
        obtain ⟨r5, m5, g5, h⟩ := b2_some h
        refine rcV 193 0 [.int x1, .int 0, .int ((mI m 0 21)), .int ((mI m 0 22))] rfl rfl rfl (hSh.k 0 rfl _) (Nat.le_of_ble_eq_true rfl) rfl (e_Mo_solved N (by omega) hSh g5) ?_
        show RN xs L al (Ev xs L al d) 207 40 [(0, .ref 0), (1, .int x1)] [.long r5] (m5, S) (some (.int r0)) (mf, S)
        refine rsn 6 (t := (49, [(4, .int 0), (3, .int ((-2147483648))), (2, .int r5.toInt32), (0, .ref 0), (1, .int x1)], [])) rfl ?_
        have ex49 : ∀ (z6_3 : Int32) (z6_4 : Int32) (m6 : Mm), (some ((z6_3 - r5.toInt32), m6)) = some (r0, mf) → RN xs L al (Ev xs L al d) 207 112 [(2, .int r5.toInt32), (3, .int z6_3)] [] (m6, S) (some (.int r0)) (mf, S) := by
          intro z6_3 z6_4 m6 h
          try dsimp only at h
          refine rsn 3 (t := (115, [(2, .int r5.toInt32), (3, .int z6_3)], [.int ((z6_3 - r5.toInt32))])) rfl ?_
          cases h
          exact rret rfl ⟨rfl, rfl, _, _, rfl, rfl, rfl, rfl⟩
        have lp49 : ∀ (n : Nat) (y7_3 : Int32) (y7_4 : Int32) (m7 : Mm), (f_Mo_cost_L49 N x1 r5.toInt32 (fun (z6_3 : Int32) (z6_4 : Int32) (m6 : Mm) => some ((z6_3 - r5.toInt32), m6)) n y7_3 y7_4 m7) = some (r0, mf) → RN xs L al (Ev xs L al d) 207 49 [(0, .ref 0), (1, .int x1), (2, .int r5.toInt32), (3, .int y7_3), (4, .int y7_4)] [] (m7, S) (some (.int r0)) (mf, S) := by
          intro n
          induction n with
          | zero => intro y7_3 y7_4 m7 h; exact absurd h (by simp [f_Mo_cost_L49])
          | succ n49 ih49 =>
            intro y7_3 y7_4 m7 h
            try dsimp only at h
            rw [f_Mo_cost_L49] at h
            try dsimp only at h
            exact rsub [(0, .ref 0), (1, .int x1), (2, .int r5.toInt32), (3, .int y7_3), (4, .int y7_4)] ⟨rfl, ⟨rfl, ⟨rfl, ⟨rfl, ⟨rfl, trivial⟩⟩⟩⟩⟩ ⟨rfl, ⟨rfl, ⟨rfl, ⟨rfl, ⟨rfl, trivial⟩⟩⟩⟩⟩ (ih49 y7_3 y7_4 m7 h)
        exact rsub [(0, .ref 0), (1, .int x1), (2, .int r5.toInt32), (3, .int ((-2147483648))), (4, .int 0)] ⟨rfl, ⟨rfl, ⟨rfl, ⟨rfl, ⟨rfl, trivial⟩⟩⟩⟩⟩ ⟨rfl, ⟨rfl, ⟨rfl, ⟨rfl, ⟨rfl, trivial⟩⟩⟩⟩⟩ (lp49 N ((-2147483648)) 0 m5 h)
      · rw [if_neg c4] at h
        refine rjf (a := (26, [(0, .ref 0), (1, .int x1)], [])) (b := (22, [(0, .ref 0), (1, .int x1)], [])) rfl rfl c4 ?_
        refine rsn 1 (t := (25, [(0, .ref 0), (1, .int x1)], [.int ((-2147483648))])) rfl ?_
        cases h
        exact rret rfl ⟨rfl, rfl, _, _, rfl, rfl, rfl, rfl⟩
def f_Mo_isBefore (N : Nat) (x1 : Int64) (x3 : Int32) (x4 : Int32) (x5 : Int32) (x6 : Int32) (m : Mm) : Option (Int32) := (if x6 = 0 then ck (ix ((((3 * x3)) + x5)) 9) (ck (ix ((((3 * x4)) + x5)) 9) ((if ((mX m 7 (((((3 * x3)) + x5)).toNatClampNeg))) ≤ ((mX m 7 (((((3 * x4)) + x5)).toNatClampNeg))) then some 0 else some 1))) else (if x6 = 2 then b1 (f_Mo_worthTo N x1 x3 x3 m) fun r6 => b1 (f_Mo_worthTo N x1 x4 x4 m) fun r7 => (if r7 ≤ r6 then some 0 else some 1) else b1 (f_Mo_manyOf N x1 x3) fun r3 => b1 (f_Mo_manyOf N x1 x4) fun r4 => (if r4 ≤ r3 then some 0 else some 1)))
set_option maxRecDepth 20000 in
set_option maxHeartbeats 4000000 in
theorem e_Mo_isBefore {xs : Nat → Int32} {L : Nat} {al : Bool} (N : Nat) {d : Nat} (hd : 3 ≤ d) {S : St} (hSh : ShR S) {x1 : Int64} {x3 : Int32} {x4 : Int32} {x5 : Int32} {x6 : Int32} {m : Mm} {r0 : Int32} (h : f_Mo_isBefore N x1 x3 x4 x5 x6 m = some r0) : Ev xs L al d 210 [.ref 0, .long x1, .int x3, .int x4, .int x5, .int x6] (m, S) (some (.int r0)) (m, S) := by
  obtain ⟨d, rfl⟩ : ∃ e, d = e + 1 := ⟨d - 1, by omega⟩
  refine ev_of (by decide) (Nat.le_of_ble_eq_true rfl) ?_
  rw [f_Mo_isBefore] at h
  show RN xs L al (Ev xs L al d) 210 0 [(0, .ref 0), (1, .long x1), (3, .int x3), (4, .int x4), (5, .int x5), (6, .int x6)] [] (m, S) (some (.int r0)) (m, S)
  refine rsn 1 (t := (2, [(0, .ref 0), (1, .long x1), (3, .int x3), (4, .int x4), (5, .int x5), (6, .int x6)], [.int x6])) rfl ?_
  by_cases c1 : x6 = 0
  · rw [if_pos c1] at h
    refine rjf (a := (37, [(0, .ref 0), (1, .long x1), (3, .int x3), (4, .int x4), (5, .int x5), (6, .int x6)], [])) (b := (5, [(0, .ref 0), (1, .long x1), (3, .int x3), (4, .int x4), (5, .int x5), (6, .int x6)], [])) rfl rfl (fun q => q c1) ?_
    refine rsn 1 (t := (6, [(0, .ref 0), (1, .long x1), (3, .int x3), (4, .int x4), (5, .int x5), (6, .int x6)], [.ref 0])) rfl ?_
    refine rgR rfl rfl rfl (hSh.k 0 rfl _) (hSh.r 6 rfl _) ?_
    refine rsn 5 (t := (15, [(0, .ref 0), (1, .long x1), (3, .int x3), (4, .int x4), (5, .int x5), (6, .int x6)], [.int ((((3 * x3)) + x5)), .ref 7])) rfl ?_
    obtain ⟨c9, h⟩ := ck_some h
    refine pxI rfl (hSh.k 7 rfl _) (hSh.l 6 rfl _) c9 ?_
    show RN xs L al (Ev xs L al d) 210 16 [(0, .ref 0), (1, .long x1), (3, .int x3), (4, .int x4), (5, .int x5), (6, .int x6)] [.int ((mX m 7 (((((3 * x3)) + x5)).toNatClampNeg)))] (m, S) (some (.int r0)) (m, S)
    refine rsn 1 (t := (17, [(0, .ref 0), (1, .long x1), (3, .int x3), (4, .int x4), (5, .int x5), (6, .int x6)], [.ref 0, .int ((mX m 7 (((((3 * x3)) + x5)).toNatClampNeg)))])) rfl ?_
    refine rgR rfl rfl rfl (hSh.k 0 rfl _) (hSh.r 6 rfl _) ?_
    refine rsn 5 (t := (27, [(0, .ref 0), (1, .long x1), (3, .int x3), (4, .int x4), (5, .int x5), (6, .int x6)], [.int ((((3 * x4)) + x5)), .ref 7, .int ((mX m 7 (((((3 * x3)) + x5)).toNatClampNeg)))])) rfl ?_
    obtain ⟨c10, h⟩ := ck_some h
    refine pxI rfl (hSh.k 7 rfl _) (hSh.l 6 rfl _) c10 ?_
    show RN xs L al (Ev xs L al d) 210 28 [(0, .ref 0), (1, .long x1), (3, .int x3), (4, .int x4), (5, .int x5), (6, .int x6)] [.int ((mX m 7 (((((3 * x4)) + x5)).toNatClampNeg))), .int ((mX m 7 (((((3 * x3)) + x5)).toNatClampNeg)))] (m, S) (some (.int r0)) (m, S)
    by_cases c11 : ((mX m 7 (((((3 * x3)) + x5)).toNatClampNeg))) ≤ ((mX m 7 (((((3 * x4)) + x5)).toNatClampNeg)))
    · rw [if_pos c11] at h
      refine rjt (a := (35, [(0, .ref 0), (1, .long x1), (3, .int x3), (4, .int x4), (5, .int x5), (6, .int x6)], [])) (b := (31, [(0, .ref 0), (1, .long x1), (3, .int x3), (4, .int x4), (5, .int x5), (6, .int x6)], [])) rfl rfl c11 ?_
      refine rsn 1 (t := (36, [(0, .ref 0), (1, .long x1), (3, .int x3), (4, .int x4), (5, .int x5), (6, .int x6)], [.int 0])) rfl ?_
      cases h
      exact rret rfl ⟨rfl, rfl, _, _, rfl, rfl, rfl, rfl⟩
    · rw [if_neg c11] at h
      refine rjf (a := (35, [(0, .ref 0), (1, .long x1), (3, .int x3), (4, .int x4), (5, .int x5), (6, .int x6)], [])) (b := (31, [(0, .ref 0), (1, .long x1), (3, .int x3), (4, .int x4), (5, .int x5), (6, .int x6)], [])) rfl rfl c11 ?_
      refine rsn 2 (t := (36, [(0, .ref 0), (1, .long x1), (3, .int x3), (4, .int x4), (5, .int x5), (6, .int x6)], [.int 1])) rfl ?_
      cases h
      exact rret rfl ⟨rfl, rfl, _, _, rfl, rfl, rfl, rfl⟩
  · rw [if_neg c1] at h
    refine rjt (a := (37, [(0, .ref 0), (1, .long x1), (3, .int x3), (4, .int x4), (5, .int x5), (6, .int x6)], [])) (b := (5, [(0, .ref 0), (1, .long x1), (3, .int x3), (4, .int x4), (5, .int x5), (6, .int x6)], [])) rfl rfl c1 ?_
    refine rsn 2 (t := (40, [(0, .ref 0), (1, .long x1), (3, .int x3), (4, .int x4), (5, .int x5), (6, .int x6)], [.int 2, .int x6])) rfl ?_
    by_cases c2 : x6 = 2
    · rw [if_pos c2] at h
      refine rjf (a := (68, [(0, .ref 0), (1, .long x1), (3, .int x3), (4, .int x4), (5, .int x5), (6, .int x6)], [])) (b := (43, [(0, .ref 0), (1, .long x1), (3, .int x3), (4, .int x4), (5, .int x5), (6, .int x6)], [])) rfl rfl (fun q => q c2) ?_
      refine rsn 4 (t := (47, [(0, .ref 0), (1, .long x1), (3, .int x3), (4, .int x4), (5, .int x5), (6, .int x6)], [.int x3, .int x3, .long x1, .ref 0])) rfl ?_
      obtain ⟨r6, g6, h⟩ := b1_some h
      refine rcV 175 0 [.long x1, .int x3, .int x3] rfl rfl rfl (hSh.k 0 rfl _) (Nat.le_of_ble_eq_true rfl) rfl (e_Mo_worthTo N (by omega) hSh g6) ?_
      show RN xs L al (Ev xs L al d) 210 50 [(0, .ref 0), (1, .long x1), (3, .int x3), (4, .int x4), (5, .int x5), (6, .int x6)] [.int r6] (m, S) (some (.int r0)) (m, S)
      refine rsn 4 (t := (56, [(0, .ref 0), (1, .long x1), (3, .int x3), (4, .int x4), (5, .int x5), (6, .int x6)], [.int x4, .int x4, .long x1, .ref 0, .int r6])) rfl ?_
      obtain ⟨r7, g7, h⟩ := b1_some h
      refine rcV 175 0 [.long x1, .int x4, .int x4] rfl rfl rfl (hSh.k 0 rfl _) (Nat.le_of_ble_eq_true rfl) rfl (e_Mo_worthTo N (by omega) hSh g7) ?_
      show RN xs L al (Ev xs L al d) 210 59 [(0, .ref 0), (1, .long x1), (3, .int x3), (4, .int x4), (5, .int x5), (6, .int x6)] [.int r7, .int r6] (m, S) (some (.int r0)) (m, S)
      by_cases c8 : r7 ≤ r6
      · rw [if_pos c8] at h
        refine rjt (a := (66, [(0, .ref 0), (1, .long x1), (3, .int x3), (4, .int x4), (5, .int x5), (6, .int x6)], [])) (b := (62, [(0, .ref 0), (1, .long x1), (3, .int x3), (4, .int x4), (5, .int x5), (6, .int x6)], [])) rfl rfl c8 ?_
        refine rsn 1 (t := (67, [(0, .ref 0), (1, .long x1), (3, .int x3), (4, .int x4), (5, .int x5), (6, .int x6)], [.int 0])) rfl ?_
        cases h
        exact rret rfl ⟨rfl, rfl, _, _, rfl, rfl, rfl, rfl⟩
      · rw [if_neg c8] at h
        refine rjf (a := (66, [(0, .ref 0), (1, .long x1), (3, .int x3), (4, .int x4), (5, .int x5), (6, .int x6)], [])) (b := (62, [(0, .ref 0), (1, .long x1), (3, .int x3), (4, .int x4), (5, .int x5), (6, .int x6)], [])) rfl rfl c8 ?_
        refine rsn 2 (t := (67, [(0, .ref 0), (1, .long x1), (3, .int x3), (4, .int x4), (5, .int x5), (6, .int x6)], [.int 1])) rfl ?_
        cases h
        exact rret rfl ⟨rfl, rfl, _, _, rfl, rfl, rfl, rfl⟩
    · rw [if_neg c2] at h
      refine rjt (a := (68, [(0, .ref 0), (1, .long x1), (3, .int x3), (4, .int x4), (5, .int x5), (6, .int x6)], [])) (b := (43, [(0, .ref 0), (1, .long x1), (3, .int x3), (4, .int x4), (5, .int x5), (6, .int x6)], [])) rfl rfl c2 ?_
      refine rsn 2 (t := (70, [(0, .ref 0), (1, .long x1), (3, .int x3), (4, .int x4), (5, .int x5), (6, .int x6)], [.int x3, .long x1])) rfl ?_
      obtain ⟨r3, g3, h⟩ := b1_some h
      refine rcS 211 [.long x1, .int x3] rfl rfl rfl (Nat.le_of_ble_eq_true rfl) rfl (e_Mo_manyOf N (by omega) g3) ?_
      show RN xs L al (Ev xs L al d) 210 73 [(0, .ref 0), (1, .long x1), (3, .int x3), (4, .int x4), (5, .int x5), (6, .int x6)] [.int r3] (m, S) (some (.int r0)) (m, S)
      refine rsn 2 (t := (76, [(0, .ref 0), (1, .long x1), (3, .int x3), (4, .int x4), (5, .int x5), (6, .int x6)], [.int x4, .long x1, .int r3])) rfl ?_
      obtain ⟨r4, g4, h⟩ := b1_some h
      refine rcS 211 [.long x1, .int x4] rfl rfl rfl (Nat.le_of_ble_eq_true rfl) rfl (e_Mo_manyOf N (by omega) g4) ?_
      show RN xs L al (Ev xs L al d) 210 79 [(0, .ref 0), (1, .long x1), (3, .int x3), (4, .int x4), (5, .int x5), (6, .int x6)] [.int r4, .int r3] (m, S) (some (.int r0)) (m, S)
      by_cases c5 : r4 ≤ r3
      · rw [if_pos c5] at h
        refine rjt (a := (86, [(0, .ref 0), (1, .long x1), (3, .int x3), (4, .int x4), (5, .int x5), (6, .int x6)], [])) (b := (82, [(0, .ref 0), (1, .long x1), (3, .int x3), (4, .int x4), (5, .int x5), (6, .int x6)], [])) rfl rfl c5 ?_
        refine rsn 1 (t := (87, [(0, .ref 0), (1, .long x1), (3, .int x3), (4, .int x4), (5, .int x5), (6, .int x6)], [.int 0])) rfl ?_
        cases h
        exact rret rfl ⟨rfl, rfl, _, _, rfl, rfl, rfl, rfl⟩
      · rw [if_neg c5] at h
        refine rjf (a := (86, [(0, .ref 0), (1, .long x1), (3, .int x3), (4, .int x4), (5, .int x5), (6, .int x6)], [])) (b := (82, [(0, .ref 0), (1, .long x1), (3, .int x3), (4, .int x4), (5, .int x5), (6, .int x6)], [])) rfl rfl c5 ?_
        refine rsn 2 (t := (87, [(0, .ref 0), (1, .long x1), (3, .int x3), (4, .int x4), (5, .int x5), (6, .int x6)], [.int 1])) rfl ?_
        cases h
        exact rret rfl ⟨rfl, rfl, _, _, rfl, rfl, rfl, rfl⟩
def f_Mo_goesTo_L25 (N : Nat) (x1 : Int64) (x3 : Int32) (x4 : Int32) (m : Mm) (k25 : Int32 → Int32 → Option (Int32)) : Nat → Int32 → Int32 → Option (Int32)
  | 0, _, _ => none
  | n25 + 1, x6, x7 => f_Mo_goesTo_L25 N x1 x3 x4 m k25 n25 x6 x7
def f_Mo_goesTo (N : Nat) (x1 : Int64) (x3 : Int32) (x4 : Int32) (x5 : Int32) (m : Mm) : Option (Int32) := (jn (fun (_ : Unit) => f_Mo_goesTo_L25 N x1 x3 x4 m (fun (z1_6 : Int32) (z1_7 : Int32) => some z1_6) N ((-1)) 0) (fun j19 => if x4 = 3 then b1 (f_Mo_held N x1) fun r4 => (if ((mI m 0 21)) ≤ r4 then j19 () else some 3) else j19 ()))
set_option maxRecDepth 20000 in
set_option maxHeartbeats 4000000 in
theorem e_Mo_goesTo {xs : Nat → Int32} {L : Nat} {al : Bool} (N : Nat) {d : Nat} (hd : 4 ≤ d) {S : St} (hSh : ShR S) {x1 : Int64} {x3 : Int32} {x4 : Int32} {x5 : Int32} {m : Mm} {r0 : Int32} (h : f_Mo_goesTo N x1 x3 x4 x5 m = some r0) : Ev xs L al d 209 [.ref 0, .long x1, .int x3, .int x4, .int x5] (m, S) (some (.int r0)) (m, S) := by
  obtain ⟨d, rfl⟩ : ∃ e, d = e + 1 := ⟨d - 1, by omega⟩
  refine ev_of (by decide) (Nat.le_of_ble_eq_true rfl) ?_
  rw [f_Mo_goesTo] at h
  show RN xs L al (Ev xs L al d) 209 0 [(0, .ref 0), (1, .long x1), (3, .int x3), (4, .int x4), (5, .int x5)] [] (m, S) (some (.int r0)) (m, S)
  refine rsn 2 (t := (3, [(0, .ref 0), (1, .long x1), (3, .int x3), (4, .int x4), (5, .int x5)], [.int 3, .int x4])) rfl ?_
  have jp19 : ∀ (_ : Unit), (f_Mo_goesTo_L25 N x1 x3 x4 m (fun (z1_6 : Int32) (z1_7 : Int32) => some z1_6) N ((-1)) 0) = some r0 → RN xs L al (Ev xs L al d) 209 19 [(0, .ref 0), (1, .long x1), (3, .int x3), (4, .int x4)] [] (m, S) (some (.int r0)) (m, S) := by
    intro _ h
    try dsimp only at h
    refine rsn 4 (t := (25, [(7, .int 0), (6, .int ((-1))), (0, .ref 0), (1, .long x1), (3, .int x3), (4, .int x4)], [])) rfl ?_
    have ex25 : ∀ (z1_6 : Int32) (z1_7 : Int32), (some z1_6) = some r0 → RN xs L al (Ev xs L al d) 209 84 [(6, .int z1_6)] [] (m, S) (some (.int r0)) (m, S) := by
      intro z1_6 z1_7 h
      try dsimp only at h
      refine rsn 1 (t := (86, [(6, .int z1_6)], [.int z1_6])) rfl ?_
      cases h
      exact rret rfl ⟨rfl, rfl, _, _, rfl, rfl, rfl, rfl⟩
    have lp25 : ∀ (n : Nat) (y2_6 : Int32) (y2_7 : Int32), (f_Mo_goesTo_L25 N x1 x3 x4 m (fun (z1_6 : Int32) (z1_7 : Int32) => some z1_6) n y2_6 y2_7) = some r0 → RN xs L al (Ev xs L al d) 209 25 [(0, .ref 0), (1, .long x1), (3, .int x3), (4, .int x4), (6, .int y2_6), (7, .int y2_7)] [] (m, S) (some (.int r0)) (m, S) := by
      intro n
      induction n with
      | zero => intro y2_6 y2_7 h; exact absurd h (by simp [f_Mo_goesTo_L25])
      | succ n25 ih25 =>
        intro y2_6 y2_7 h
        try dsimp only at h
        rw [f_Mo_goesTo_L25] at h
        try dsimp only at h
        exact rsub [(0, .ref 0), (1, .long x1), (3, .int x3), (4, .int x4), (6, .int y2_6), (7, .int y2_7)] ⟨rfl, ⟨rfl, ⟨rfl, ⟨rfl, ⟨rfl, ⟨rfl, trivial⟩⟩⟩⟩⟩⟩ ⟨rfl, ⟨rfl, ⟨rfl, ⟨rfl, ⟨rfl, ⟨rfl, trivial⟩⟩⟩⟩⟩⟩ (ih25 y2_6 y2_7 h)
    exact rsub [(0, .ref 0), (1, .long x1), (3, .int x3), (4, .int x4), (6, .int ((-1))), (7, .int 0)] ⟨rfl, ⟨rfl, ⟨rfl, ⟨rfl, ⟨rfl, ⟨rfl, trivial⟩⟩⟩⟩⟩⟩ ⟨rfl, ⟨rfl, ⟨rfl, ⟨rfl, ⟨rfl, ⟨rfl, trivial⟩⟩⟩⟩⟩⟩ (lp25 N ((-1)) 0 h)
  rw [jn] at h
  try dsimp only at h
  by_cases c3 : x4 = 3
  · rw [if_pos c3] at h
    refine rjf (a := (19, [(0, .ref 0), (1, .long x1), (3, .int x3), (4, .int x4), (5, .int x5)], [])) (b := (6, [(0, .ref 0), (1, .long x1), (3, .int x3), (4, .int x4), (5, .int x5)], [])) rfl rfl (fun q => q c3) ?_
    refine rsn 1 (t := (7, [(0, .ref 0), (1, .long x1), (3, .int x3), (4, .int x4), (5, .int x5)], [.long x1])) rfl ?_
    obtain ⟨r4, g4, h⟩ := b1_some h
    refine rcS 181 [.long x1] rfl rfl rfl (Nat.le_of_ble_eq_true rfl) rfl (e_Mo_held N (by omega) g4) ?_
    show RN xs L al (Ev xs L al d) 209 10 [(0, .ref 0), (1, .long x1), (3, .int x3), (4, .int x4), (5, .int x5)] [.int r4] (m, S) (some (.int r0)) (m, S)
    refine rsn 1 (t := (11, [(0, .ref 0), (1, .long x1), (3, .int x3), (4, .int x4), (5, .int x5)], [.ref 0, .int r4])) rfl ?_
    refine pgI rfl rfl rfl (hSh.k 0 rfl _) ?_
    show RN xs L al (Ev xs L al d) 209 14 [(0, .ref 0), (1, .long x1), (3, .int x3), (4, .int x4), (5, .int x5)] [.int ((mI m 0 21)), .int r4] (m, S) (some (.int r0)) (m, S)
    by_cases c5 : ((mI m 0 21)) ≤ r4
    · rw [if_pos c5] at h
      refine rjt (a := (19, [(0, .ref 0), (1, .long x1), (3, .int x3), (4, .int x4), (5, .int x5)], [])) (b := (17, [(0, .ref 0), (1, .long x1), (3, .int x3), (4, .int x4), (5, .int x5)], [])) rfl rfl c5 ?_
      exact rsub [(0, .ref 0), (1, .long x1), (3, .int x3), (4, .int x4)] ⟨rfl, ⟨rfl, ⟨rfl, ⟨rfl, trivial⟩⟩⟩⟩ ⟨rfl, ⟨rfl, ⟨rfl, ⟨rfl, trivial⟩⟩⟩⟩ (jp19 () h)
    · rw [if_neg c5] at h
      refine rjf (a := (19, [(0, .ref 0), (1, .long x1), (3, .int x3), (4, .int x4), (5, .int x5)], [])) (b := (17, [(0, .ref 0), (1, .long x1), (3, .int x3), (4, .int x4), (5, .int x5)], [])) rfl rfl c5 ?_
      refine rsn 1 (t := (18, [(0, .ref 0), (1, .long x1), (3, .int x3), (4, .int x4), (5, .int x5)], [.int 3])) rfl ?_
      cases h
      exact rret rfl ⟨rfl, rfl, _, _, rfl, rfl, rfl, rfl⟩
  · rw [if_neg c3] at h
    refine rjt (a := (19, [(0, .ref 0), (1, .long x1), (3, .int x3), (4, .int x4), (5, .int x5)], [])) (b := (6, [(0, .ref 0), (1, .long x1), (3, .int x3), (4, .int x4), (5, .int x5)], [])) rfl rfl c3 ?_
    exact rsub [(0, .ref 0), (1, .long x1), (3, .int x3), (4, .int x4)] ⟨rfl, ⟨rfl, ⟨rfl, ⟨rfl, trivial⟩⟩⟩⟩ ⟨rfl, ⟨rfl, ⟨rfl, ⟨rfl, trivial⟩⟩⟩⟩ (jp19 () h)
def f_Mo_fare_L78 (N : Nat) (x1 : Int32) (x2 : Int32) (x3 : Int32) (k78 : Int32 → Int32 → Mm → Option (Int32 × Mm)) : Nat → Int32 → Int32 → Mm → Option (Int32 × Mm)
  | 0, _, _, _ => none
  | n78 + 1, x4, x5, m => f_Mo_fare_L78 N x1 x2 x3 k78 n78 x4 x5 m
def f_Mo_fare_L349 (N : Nat) (x2 : Int32) (x3 : Int32) (x4 : Int32) (k349 : Int64 → Int32 → Mm → Option (Int32 × Mm)) : Nat → Int64 → Int32 → Mm → Option (Int32 × Mm)
  | 0, _, _, _ => none
  | n349 + 1, x5, x7, m => f_Mo_fare_L349 N x2 x3 x4 k349 n349 x5 x7 m
def f_Mo_fare (N : Nat) (x1 : Int32) (x2 : Int32) (x3 : Int32) (m : Mm) : Option (Int32 × Mm) := (if ((mI m 0 15)) = 0 then some ((-2147483648), m) else b1 (f_Mo_isGoal N x2) fun r2 => (if r2 = 0 then some ((-2147483648), m) else b1 (f_Mo_in N x1 0 4) fun r4 => (if r4 = 0 then some ((-2147483648), m) else (if ((mI m 0 25)) = ((-1)) then (jn (fun (m7 : Mm) => ck (ix (0 : Int32) 729) (ck (ix (0 : Int32) 729) (f_Mo_fare_L78 N x1 x2 x3 (fun (z10_4 : Int32) (z10_5 : Int32) (m10 : Mm) => f_Mo_fare_L349 N x2 x3 z10_4 (fun (z11_5 : Int64) (z11_7 : Int32) (m11 : Mm) => b1 (f_Mo_told N z11_5 x3 m11) fun r12 => some (r12, m11)) N 0 0 m10) N 1 0 (vY (vY m7 22 ((0 : Int32).toNatClampNeg) ((mJ m7 0 23))) 24 ((0 : Int32).toNatClampNeg) 1)))) (fun j55 => if x1 = 4 then b2 (f_Mo_solved N 0 0 ((mI m 0 21)) ((mI m 0 22)) m) fun r16 m16 => j55 m16 else j55 m)) else some ((-2147483648), m)))))
set_option maxRecDepth 20000 in
set_option maxHeartbeats 4000000 in
theorem e_Mo_fare {xs : Nat → Int32} {L : Nat} {al : Bool} (N : Nat) {d : Nat} (hd : 9 ≤ d) {S : St} (hSh : ShR S) {x1 : Int32} {x2 : Int32} {x3 : Int32} {m : Mm} {r0 : Int32} {mf : Mm} (h : f_Mo_fare N x1 x2 x3 m = some (r0, mf)) : Ev xs L al d 208 [.ref 0, .int x1, .int x2, .int x3] (m, S) (some (.int r0)) (mf, S) := by
  obtain ⟨d, rfl⟩ : ∃ e, d = e + 1 := ⟨d - 1, by omega⟩
  refine ev_of (by decide) (Nat.le_of_ble_eq_true rfl) ?_
  rw [f_Mo_fare] at h
  show RN xs L al (Ev xs L al d) 208 0 [(0, .ref 0), (1, .int x1), (2, .int x2), (3, .int x3)] [] (m, S) (some (.int r0)) (mf, S)
  refine rsn 1 (t := (1, [(0, .ref 0), (1, .int x1), (2, .int x2), (3, .int x3)], [.ref 0])) rfl ?_
  refine pgI rfl rfl rfl (hSh.k 0 rfl _) ?_
  show RN xs L al (Ev xs L al d) 208 4 [(0, .ref 0), (1, .int x1), (2, .int x2), (3, .int x3)] [.int ((mI m 0 15))] (m, S) (some (.int r0)) (mf, S)
  by_cases c1 : ((mI m 0 15)) = 0
  · rw [if_pos c1] at h
    refine rjt (a := (31, [(0, .ref 0), (1, .int x1), (2, .int x2), (3, .int x3)], [])) (b := (7, [(0, .ref 0), (1, .int x1), (2, .int x2), (3, .int x3)], [])) rfl rfl c1 ?_
    refine rsn 1 (t := (34, [(0, .ref 0), (1, .int x1), (2, .int x2), (3, .int x3)], [.int ((-2147483648))])) rfl ?_
    cases h
    exact rret rfl ⟨rfl, rfl, _, _, rfl, rfl, rfl, rfl⟩
  · rw [if_neg c1] at h
    refine rjf (a := (31, [(0, .ref 0), (1, .int x1), (2, .int x2), (3, .int x3)], [])) (b := (7, [(0, .ref 0), (1, .int x1), (2, .int x2), (3, .int x3)], [])) rfl rfl c1 ?_
    refine rsn 1 (t := (8, [(0, .ref 0), (1, .int x1), (2, .int x2), (3, .int x3)], [.int x2])) rfl ?_
    obtain ⟨r2, g2, h⟩ := b1_some h
    refine rcS 184 [.int x2] rfl rfl rfl (Nat.le_of_ble_eq_true rfl) rfl (e_Mo_isGoal N (by omega) g2) ?_
    show RN xs L al (Ev xs L al d) 208 11 [(0, .ref 0), (1, .int x1), (2, .int x2), (3, .int x3)] [.int r2] (m, S) (some (.int r0)) (mf, S)
    by_cases c3 : r2 = 0
    · rw [if_pos c3] at h
      refine rjt (a := (31, [(0, .ref 0), (1, .int x1), (2, .int x2), (3, .int x3)], [])) (b := (14, [(0, .ref 0), (1, .int x1), (2, .int x2), (3, .int x3)], [])) rfl rfl c3 ?_
      refine rsn 1 (t := (34, [(0, .ref 0), (1, .int x1), (2, .int x2), (3, .int x3)], [.int ((-2147483648))])) rfl ?_
      cases h
      exact rret rfl ⟨rfl, rfl, _, _, rfl, rfl, rfl, rfl⟩
    · rw [if_neg c3] at h
      refine rjf (a := (31, [(0, .ref 0), (1, .int x1), (2, .int x2), (3, .int x3)], [])) (b := (14, [(0, .ref 0), (1, .int x1), (2, .int x2), (3, .int x3)], [])) rfl rfl c3 ?_
      refine rsn 3 (t := (17, [(0, .ref 0), (1, .int x1), (2, .int x2), (3, .int x3)], [.int 4, .int 0, .int x1])) rfl ?_
      obtain ⟨r4, g4, h⟩ := b1_some h
      refine rcS 146 [.int x1, .int 0, .int 4] rfl rfl rfl (Nat.le_of_ble_eq_true rfl) rfl (e_Mo_in N (by omega) g4) ?_
      show RN xs L al (Ev xs L al d) 208 20 [(0, .ref 0), (1, .int x1), (2, .int x2), (3, .int x3)] [.int r4] (m, S) (some (.int r0)) (mf, S)
      by_cases c5 : r4 = 0
      · rw [if_pos c5] at h
        refine rjt (a := (31, [(0, .ref 0), (1, .int x1), (2, .int x2), (3, .int x3)], [])) (b := (23, [(0, .ref 0), (1, .int x1), (2, .int x2), (3, .int x3)], [])) rfl rfl c5 ?_
        refine rsn 1 (t := (34, [(0, .ref 0), (1, .int x1), (2, .int x2), (3, .int x3)], [.int ((-2147483648))])) rfl ?_
        cases h
        exact rret rfl ⟨rfl, rfl, _, _, rfl, rfl, rfl, rfl⟩
      · rw [if_neg c5] at h
        refine rjf (a := (31, [(0, .ref 0), (1, .int x1), (2, .int x2), (3, .int x3)], [])) (b := (23, [(0, .ref 0), (1, .int x1), (2, .int x2), (3, .int x3)], [])) rfl rfl c5 ?_
        refine rsn 1 (t := (24, [(0, .ref 0), (1, .int x1), (2, .int x2), (3, .int x3)], [.ref 0])) rfl ?_
        refine pgI rfl rfl rfl (hSh.k 0 rfl _) ?_
        show RN xs L al (Ev xs L al d) 208 27 [(0, .ref 0), (1, .int x1), (2, .int x2), (3, .int x3)] [.int ((mI m 0 25))] (m, S) (some (.int r0)) (mf, S)
        refine rsn 1 (t := (28, [(0, .ref 0), (1, .int x1), (2, .int x2), (3, .int x3)], [.int ((-1)), .int ((mI m 0 25))])) rfl ?_
        by_cases c6 : ((mI m 0 25)) = ((-1))
        · rw [if_pos c6] at h
          refine rjt (a := (35, [(0, .ref 0), (1, .int x1), (2, .int x2), (3, .int x3)], [])) (b := (31, [(0, .ref 0), (1, .int x1), (2, .int x2), (3, .int x3)], [])) rfl rfl c6 ?_
          refine rsn 2 (t := (37, [(0, .ref 0), (1, .int x1), (2, .int x2), (3, .int x3)], [.int 4, .int x1])) rfl ?_
          have jp55 : ∀ (m7 : Mm), (ck (ix (0 : Int32) 729) (ck (ix (0 : Int32) 729) (f_Mo_fare_L78 N x1 x2 x3 (fun (z10_4 : Int32) (z10_5 : Int32) (m10 : Mm) => f_Mo_fare_L349 N x2 x3 z10_4 (fun (z11_5 : Int64) (z11_7 : Int32) (m11 : Mm) => b1 (f_Mo_told N z11_5 x3 m11) fun r12 => some (r12, m11)) N 0 0 m10) N 1 0 (vY (vY m7 22 ((0 : Int32).toNatClampNeg) ((mJ m7 0 23))) 24 ((0 : Int32).toNatClampNeg) 1)))) = some (r0, mf) → RN xs L al (Ev xs L al d) 208 55 [(0, .ref 0), (1, .int x1), (2, .int x2), (3, .int x3)] [] (m7, S) (some (.int r0)) (mf, S) := by
            intro m7 h
            try dsimp only at h
            refine rsn 3 (t := (59, [(4, .int 1), (0, .ref 0), (1, .int x1), (2, .int x2), (3, .int x3)], [.ref 0])) rfl ?_
            refine rgR rfl rfl rfl (hSh.k 0 rfl _) (hSh.r 21 rfl _) ?_
            refine rsn 2 (t := (64, [(4, .int 1), (0, .ref 0), (1, .int x1), (2, .int x2), (3, .int x3)], [.ref 0, .int 0, .ref 22])) rfl ?_
            refine pgJ rfl rfl rfl (hSh.k 0 rfl _) ?_
            show RN xs L al (Ev xs L al d) 208 67 [(4, .int 1), (0, .ref 0), (1, .int x1), (2, .int x2), (3, .int x3)] [.long ((mJ m7 0 23)), .int 0, .ref 22] (m7, S) (some (.int r0)) (mf, S)
            obtain ⟨c8, h⟩ := ck_some h
            refine psJ rfl (hSh.k 22 rfl _) (hSh.l 21 rfl _) c8 ?_
            refine rsn 1 (t := (69, [(4, .int 1), (0, .ref 0), (1, .int x1), (2, .int x2), (3, .int x3)], [.ref 0])) rfl ?_
            refine rgR rfl rfl rfl (hSh.k 0 rfl _) (hSh.r 23 rfl _) ?_
            refine rsn 2 (t := (74, [(4, .int 1), (0, .ref 0), (1, .int x1), (2, .int x2), (3, .int x3)], [.long 1, .int 0, .ref 24])) rfl ?_
            obtain ⟨c9, h⟩ := ck_some h
            refine psJ rfl (hSh.k 24 rfl _) (hSh.l 23 rfl _) c9 ?_
            refine rsn 2 (t := (78, [(5, .int 0), (4, .int 1), (0, .ref 0), (1, .int x1), (2, .int x2), (3, .int x3)], [])) rfl ?_
            have ex78 : ∀ (z10_4 : Int32) (z10_5 : Int32) (m10 : Mm), (f_Mo_fare_L349 N x2 x3 z10_4 (fun (z11_5 : Int64) (z11_7 : Int32) (m11 : Mm) => b1 (f_Mo_told N z11_5 x3 m11) fun r12 => some (r12, m11)) N 0 0 m10) = some (r0, mf) → RN xs L al (Ev xs L al d) 208 343 [(0, .ref 0), (2, .int x2), (3, .int x3), (4, .int z10_4)] [] (m10, S) (some (.int r0)) (mf, S) := by
              intro z10_4 z10_5 m10 h
              try dsimp only at h
              refine rsn 4 (t := (349, [(7, .int 0), (5, .long 0), (0, .ref 0), (2, .int x2), (3, .int x3), (4, .int z10_4)], [])) rfl ?_
              have ex349 : ∀ (z11_5 : Int64) (z11_7 : Int32) (m11 : Mm), (b1 (f_Mo_told N z11_5 x3 m11) fun r12 => some (r12, m11)) = some (r0, mf) → RN xs L al (Ev xs L al d) 208 427 [(0, .ref 0), (3, .int x3), (5, .long z11_5)] [] (m11, S) (some (.int r0)) (mf, S) := by
                intro z11_5 z11_7 m11 h
                try dsimp only at h
                refine rsn 3 (t := (431, [(0, .ref 0), (3, .int x3), (5, .long z11_5)], [.int x3, .long z11_5, .ref 0])) rfl ?_
                obtain ⟨r12, g12, h⟩ := b1_some h
                refine rcV 200 0 [.long z11_5, .int x3] rfl rfl rfl (hSh.k 0 rfl _) (Nat.le_of_ble_eq_true rfl) rfl (e_Mo_told N (by omega) hSh g12) ?_
                show RN xs L al (Ev xs L al d) 208 434 [(0, .ref 0), (3, .int x3), (5, .long z11_5)] [.int r12] (m11, S) (some (.int r0)) (mf, S)
                cases h
                exact rret rfl ⟨rfl, rfl, _, _, rfl, rfl, rfl, rfl⟩
              have lp349 : ∀ (n : Nat) (y13_5 : Int64) (y13_7 : Int32) (m13 : Mm), (f_Mo_fare_L349 N x2 x3 z10_4 (fun (z11_5 : Int64) (z11_7 : Int32) (m11 : Mm) => b1 (f_Mo_told N z11_5 x3 m11) fun r12 => some (r12, m11)) n y13_5 y13_7 m13) = some (r0, mf) → RN xs L al (Ev xs L al d) 208 349 [(0, .ref 0), (2, .int x2), (3, .int x3), (4, .int z10_4), (5, .long y13_5), (7, .int y13_7)] [] (m13, S) (some (.int r0)) (mf, S) := by
                intro n
                induction n with
                | zero => intro y13_5 y13_7 m13 h; exact absurd h (by simp [f_Mo_fare_L349])
                | succ n349 ih349 =>
                  intro y13_5 y13_7 m13 h
                  try dsimp only at h
                  rw [f_Mo_fare_L349] at h
                  try dsimp only at h
                  exact rsub [(0, .ref 0), (2, .int x2), (3, .int x3), (4, .int z10_4), (5, .long y13_5), (7, .int y13_7)] ⟨rfl, ⟨rfl, ⟨rfl, ⟨rfl, ⟨rfl, ⟨rfl, trivial⟩⟩⟩⟩⟩⟩ ⟨rfl, ⟨rfl, ⟨rfl, ⟨rfl, ⟨rfl, ⟨rfl, trivial⟩⟩⟩⟩⟩⟩ (ih349 y13_5 y13_7 m13 h)
              exact rsub [(0, .ref 0), (2, .int x2), (3, .int x3), (4, .int z10_4), (5, .long 0), (7, .int 0)] ⟨rfl, ⟨rfl, ⟨rfl, ⟨rfl, ⟨rfl, ⟨rfl, trivial⟩⟩⟩⟩⟩⟩ ⟨rfl, ⟨rfl, ⟨rfl, ⟨rfl, ⟨rfl, ⟨rfl, trivial⟩⟩⟩⟩⟩⟩ (lp349 N 0 0 m10 h)
            have lp78 : ∀ (n : Nat) (y14_4 : Int32) (y14_5 : Int32) (m14 : Mm), (f_Mo_fare_L78 N x1 x2 x3 (fun (z10_4 : Int32) (z10_5 : Int32) (m10 : Mm) => f_Mo_fare_L349 N x2 x3 z10_4 (fun (z11_5 : Int64) (z11_7 : Int32) (m11 : Mm) => b1 (f_Mo_told N z11_5 x3 m11) fun r12 => some (r12, m11)) N 0 0 m10) n y14_4 y14_5 m14) = some (r0, mf) → RN xs L al (Ev xs L al d) 208 78 [(0, .ref 0), (1, .int x1), (2, .int x2), (3, .int x3), (4, .int y14_4), (5, .int y14_5)] [] (m14, S) (some (.int r0)) (mf, S) := by
              intro n
              induction n with
              | zero => intro y14_4 y14_5 m14 h; exact absurd h (by simp [f_Mo_fare_L78])
              | succ n78 ih78 =>
                intro y14_4 y14_5 m14 h
                try dsimp only at h
                rw [f_Mo_fare_L78] at h
                try dsimp only at h
                exact rsub [(0, .ref 0), (1, .int x1), (2, .int x2), (3, .int x3), (4, .int y14_4), (5, .int y14_5)] ⟨rfl, ⟨rfl, ⟨rfl, ⟨rfl, ⟨rfl, ⟨rfl, trivial⟩⟩⟩⟩⟩⟩ ⟨rfl, ⟨rfl, ⟨rfl, ⟨rfl, ⟨rfl, ⟨rfl, trivial⟩⟩⟩⟩⟩⟩ (ih78 y14_4 y14_5 m14 h)
            exact rsub [(0, .ref 0), (1, .int x1), (2, .int x2), (3, .int x3), (4, .int 1), (5, .int 0)] ⟨rfl, ⟨rfl, ⟨rfl, ⟨rfl, ⟨rfl, ⟨rfl, trivial⟩⟩⟩⟩⟩⟩ ⟨rfl, ⟨rfl, ⟨rfl, ⟨rfl, ⟨rfl, ⟨rfl, trivial⟩⟩⟩⟩⟩⟩ (lp78 N 1 0 (vY (vY m7 22 ((0 : Int32).toNatClampNeg) ((mJ m7 0 23))) 24 ((0 : Int32).toNatClampNeg) 1) h)
          rw [jn] at h
          try dsimp only at h
          by_cases c15 : x1 = 4
          · rw [if_pos c15] at h
            refine rjf (a := (55, [(0, .ref 0), (1, .int x1), (2, .int x2), (3, .int x3)], [])) (b := (40, [(0, .ref 0), (1, .int x1), (2, .int x2), (3, .int x3)], [])) rfl rfl (fun q => q c15) ?_
            refine rsn 4 (t := (44, [(0, .ref 0), (1, .int x1), (2, .int x2), (3, .int x3)], [.ref 0, .int 0, .int 0, .ref 0])) rfl ?_
            refine pgI rfl rfl rfl (hSh.k 0 rfl _) ?_
            show RN xs L al (Ev xs L al d) 208 47 [(0, .ref 0), (1, .int x1), (2, .int x2), (3, .int x3)] [.int ((mI m 0 21)), .int 0, .int 0, .ref 0] (m, S) (some (.int r0)) (mf, S)
            refine rsn 1 (t := (48, [(0, .ref 0), (1, .int x1), (2, .int x2), (3, .int x3)], [.ref 0, .int ((mI m 0 21)), .int 0, .int 0, .ref 0])) rfl ?_
            refine pgI rfl rfl rfl (hSh.k 0 rfl _) ?_
            show RN xs L al (Ev xs L al d) 208 51 [(0, .ref 0), (1, .int x1), (2, .int x2), (3, .int x3)] [.int ((mI m 0 22)), .int ((mI m 0 21)), .int 0, .int 0, .ref 0] (m, S) (some (.int r0)) (mf, S)
            obtain ⟨r16, m16, g16, h⟩ := b2_some h
            refine rcV 193 0 [.int 0, .int 0, .int ((mI m 0 21)), .int ((mI m 0 22))] rfl rfl rfl (hSh.k 0 rfl _) (Nat.le_of_ble_eq_true rfl) rfl (e_Mo_solved N (by omega) hSh g16) ?_
            show RN xs L al (Ev xs L al d) 208 54 [(0, .ref 0), (1, .int x1), (2, .int x2), (3, .int x3)] [.long r16] (m16, S) (some (.int r0)) (mf, S)
            refine rsn 1 (t := (55, [(0, .ref 0), (1, .int x1), (2, .int x2), (3, .int x3)], [])) rfl ?_
            exact rsub [(0, .ref 0), (1, .int x1), (2, .int x2), (3, .int x3)] ⟨rfl, ⟨rfl, ⟨rfl, ⟨rfl, trivial⟩⟩⟩⟩ ⟨rfl, ⟨rfl, ⟨rfl, ⟨rfl, trivial⟩⟩⟩⟩ (jp55 m16 h)
          · rw [if_neg c15] at h
            refine rjt (a := (55, [(0, .ref 0), (1, .int x1), (2, .int x2), (3, .int x3)], [])) (b := (40, [(0, .ref 0), (1, .int x1), (2, .int x2), (3, .int x3)], [])) rfl rfl c15 ?_
            exact rsub [(0, .ref 0), (1, .int x1), (2, .int x2), (3, .int x3)] ⟨rfl, ⟨rfl, ⟨rfl, ⟨rfl, trivial⟩⟩⟩⟩ ⟨rfl, ⟨rfl, ⟨rfl, ⟨rfl, trivial⟩⟩⟩⟩ (jp55 m h)
        · rw [if_neg c6] at h
          refine rjf (a := (35, [(0, .ref 0), (1, .int x1), (2, .int x2), (3, .int x3)], [])) (b := (31, [(0, .ref 0), (1, .int x1), (2, .int x2), (3, .int x3)], [])) rfl rfl c6 ?_
          refine rsn 1 (t := (34, [(0, .ref 0), (1, .int x1), (2, .int x2), (3, .int x3)], [.int ((-2147483648))])) rfl ?_
          cases h
          exact rret rfl ⟨rfl, rfl, _, _, rfl, rfl, rfl, rfl⟩
def f_Mo_mended (N : Nat) (x1 : Int32) (x2 : Int32) (m : Mm) : Option (Int32 × Mm) := (if ((mI m 0 15)) = 0 then some ((-1), m) else b1 (f_Mo_isGoal N x1) fun r2 => (if r2 = 0 then some ((-1), m) else b1 (f_Mo_in N x2 0 1) fun r4 => (if r4 = 0 then some ((-1), m) else b2 (f_Mo_solved N x1 0 ((mI m 0 21)) ((mI m 0 22)) m) fun r6 m6 => (jn (fun (s7 : Int32) => (if x2 = 1 then b2 (f_Mo_solved N x1 0 s7 ((((mI m6 0 22)) + 1)) m6) fun r10 m10 => some (((r10 - r6)).toInt32, m10) else b2 (f_Mo_solved N x1 0 s7 ((mI m6 0 22)) m6) fun r9 m9 => some (((r9 - r6)).toInt32, m9))) (fun j60 => if x2 = 0 then j60 ((((mI m6 0 21)) + 1)) else j60 ((mI m6 0 21)))))))
set_option maxRecDepth 20000 in
set_option maxHeartbeats 4000000 in
theorem e_Mo_mended {xs : Nat → Int32} {L : Nat} {al : Bool} (N : Nat) {d : Nat} (hd : 9 ≤ d) {S : St} (hSh : ShR S) {x1 : Int32} {x2 : Int32} {m : Mm} {r0 : Int32} {mf : Mm} (h : f_Mo_mended N x1 x2 m = some (r0, mf)) : Ev xs L al d 212 [.ref 0, .int x1, .int x2] (m, S) (some (.int r0)) (mf, S) := by
  obtain ⟨d, rfl⟩ : ∃ e, d = e + 1 := ⟨d - 1, by omega⟩
  refine ev_of (by decide) (Nat.le_of_ble_eq_true rfl) ?_
  rw [f_Mo_mended] at h
  show RN xs L al (Ev xs L al d) 212 0 [(0, .ref 0), (1, .int x1), (2, .int x2)] [] (m, S) (some (.int r0)) (mf, S)
  refine rsn 1 (t := (1, [(0, .ref 0), (1, .int x1), (2, .int x2)], [.ref 0])) rfl ?_
  refine pgI rfl rfl rfl (hSh.k 0 rfl _) ?_
  show RN xs L al (Ev xs L al d) 212 4 [(0, .ref 0), (1, .int x1), (2, .int x2)] [.int ((mI m 0 15))] (m, S) (some (.int r0)) (mf, S)
  by_cases c1 : ((mI m 0 15)) = 0
  · rw [if_pos c1] at h
    refine rjt (a := (23, [(0, .ref 0), (1, .int x1), (2, .int x2)], [])) (b := (7, [(0, .ref 0), (1, .int x1), (2, .int x2)], [])) rfl rfl c1 ?_
    refine rsn 1 (t := (24, [(0, .ref 0), (1, .int x1), (2, .int x2)], [.int ((-1))])) rfl ?_
    cases h
    exact rret rfl ⟨rfl, rfl, _, _, rfl, rfl, rfl, rfl⟩
  · rw [if_neg c1] at h
    refine rjf (a := (23, [(0, .ref 0), (1, .int x1), (2, .int x2)], [])) (b := (7, [(0, .ref 0), (1, .int x1), (2, .int x2)], [])) rfl rfl c1 ?_
    refine rsn 1 (t := (8, [(0, .ref 0), (1, .int x1), (2, .int x2)], [.int x1])) rfl ?_
    obtain ⟨r2, g2, h⟩ := b1_some h
    refine rcS 184 [.int x1] rfl rfl rfl (Nat.le_of_ble_eq_true rfl) rfl (e_Mo_isGoal N (by omega) g2) ?_
    show RN xs L al (Ev xs L al d) 212 11 [(0, .ref 0), (1, .int x1), (2, .int x2)] [.int r2] (m, S) (some (.int r0)) (mf, S)
    by_cases c3 : r2 = 0
    · rw [if_pos c3] at h
      refine rjt (a := (23, [(0, .ref 0), (1, .int x1), (2, .int x2)], [])) (b := (14, [(0, .ref 0), (1, .int x1), (2, .int x2)], [])) rfl rfl c3 ?_
      refine rsn 1 (t := (24, [(0, .ref 0), (1, .int x1), (2, .int x2)], [.int ((-1))])) rfl ?_
      cases h
      exact rret rfl ⟨rfl, rfl, _, _, rfl, rfl, rfl, rfl⟩
    · rw [if_neg c3] at h
      refine rjf (a := (23, [(0, .ref 0), (1, .int x1), (2, .int x2)], [])) (b := (14, [(0, .ref 0), (1, .int x1), (2, .int x2)], [])) rfl rfl c3 ?_
      refine rsn 3 (t := (17, [(0, .ref 0), (1, .int x1), (2, .int x2)], [.int 1, .int 0, .int x2])) rfl ?_
      obtain ⟨r4, g4, h⟩ := b1_some h
      refine rcS 146 [.int x2, .int 0, .int 1] rfl rfl rfl (Nat.le_of_ble_eq_true rfl) rfl (e_Mo_in N (by omega) g4) ?_
      show RN xs L al (Ev xs L al d) 212 20 [(0, .ref 0), (1, .int x1), (2, .int x2)] [.int r4] (m, S) (some (.int r0)) (mf, S)
      by_cases c5 : r4 = 0
      · rw [if_pos c5] at h
        refine rjf (a := (25, [(0, .ref 0), (1, .int x1), (2, .int x2)], [])) (b := (23, [(0, .ref 0), (1, .int x1), (2, .int x2)], [])) rfl rfl (fun q => q c5) ?_
        refine rsn 1 (t := (24, [(0, .ref 0), (1, .int x1), (2, .int x2)], [.int ((-1))])) rfl ?_
        cases h
        exact rret rfl ⟨rfl, rfl, _, _, rfl, rfl, rfl, rfl⟩
      · rw [if_neg c5] at h
        refine rjt (a := (25, [(0, .ref 0), (1, .int x1), (2, .int x2)], [])) (b := (23, [(0, .ref 0), (1, .int x1), (2, .int x2)], [])) rfl rfl c5 ?_
        refine rsn 4 (t := (29, [(0, .ref 0), (1, .int x1), (2, .int x2)], [.ref 0, .int 0, .int x1, .ref 0])) rfl ?_
        refine pgI rfl rfl rfl (hSh.k 0 rfl _) ?_
        show RN xs L al (Ev xs L al d) 212 32 [(0, .ref 0), (1, .int x1), (2, .int x2)] [.int ((mI m 0 21)), .int 0, .int x1, .ref 0] (m, S) (some (.int r0)) (mf, S)
        refine rsn 1 (t := (33, [(0, .ref 0), (1, .int x1), (2, .int x2)], [.ref 0, .int ((mI m 0 21)), .int 0, .int x1, .ref 0])) rfl ?_
        refine pgI rfl rfl rfl (hSh.k 0 rfl _) ?_
        show RN xs L al (Ev xs L al d) 212 36 [(0, .ref 0), (1, .int x1), (2, .int x2)] [.int ((mI m 0 22)), .int ((mI m 0 21)), .int 0, .int x1, .ref 0] (m, S) (some (.int r0)) (mf, S)
        obtain ⟨r6, m6, g6, h⟩ := b2_some h
        refine rcV 193 0 [.int x1, .int 0, .int ((mI m 0 21)), .int ((mI m 0 22))] rfl rfl rfl (hSh.k 0 rfl _) (Nat.le_of_ble_eq_true rfl) rfl (e_Mo_solved N (by omega) hSh g6) ?_
        show RN xs L al (Ev xs L al d) 212 39 [(0, .ref 0), (1, .int x1), (2, .int x2)] [.long r6] (m6, S) (some (.int r0)) (mf, S)
        refine rsn 5 (t := (44, [(3, .long r6), (0, .ref 0), (1, .int x1), (2, .int x2)], [.int x2, .int 0, .int x1, .ref 0])) rfl ?_
        have jp60 : ∀ (s7 : Int32), ((if x2 = 1 then b2 (f_Mo_solved N x1 0 s7 ((((mI m6 0 22)) + 1)) m6) fun r10 m10 => some (((r10 - r6)).toInt32, m10) else b2 (f_Mo_solved N x1 0 s7 ((mI m6 0 22)) m6) fun r9 m9 => some (((r9 - r6)).toInt32, m9))) = some (r0, mf) → RN xs L al (Ev xs L al d) 212 60 [(0, .ref 0), (2, .int x2), (3, .long r6)] [.int s7, .int 0, .int x1, .ref 0] (m6, S) (some (.int r0)) (mf, S) := by
          intro s7 h
          try dsimp only at h
          refine rsn 2 (t := (62, [(0, .ref 0), (2, .int x2), (3, .long r6)], [.int 1, .int x2, .int s7, .int 0, .int x1, .ref 0])) rfl ?_
          by_cases c8 : x2 = 1
          · rw [if_pos c8] at h
            refine rjf (a := (74, [(0, .ref 0), (2, .int x2), (3, .long r6)], [.int s7, .int 0, .int x1, .ref 0])) (b := (65, [(0, .ref 0), (2, .int x2), (3, .long r6)], [.int s7, .int 0, .int x1, .ref 0])) rfl rfl (fun q => q c8) ?_
            refine rsn 1 (t := (66, [(0, .ref 0), (2, .int x2), (3, .long r6)], [.ref 0, .int s7, .int 0, .int x1, .ref 0])) rfl ?_
            refine pgI rfl rfl rfl (hSh.k 0 rfl _) ?_
            show RN xs L al (Ev xs L al d) 212 69 [(0, .ref 0), (2, .int x2), (3, .long r6)] [.int ((mI m6 0 22)), .int s7, .int 0, .int x1, .ref 0] (m6, S) (some (.int r0)) (mf, S)
            refine rsn 3 (t := (78, [(0, .ref 0), (2, .int x2), (3, .long r6)], [.int ((((mI m6 0 22)) + 1)), .int s7, .int 0, .int x1, .ref 0])) rfl ?_
            obtain ⟨r10, m10, g10, h⟩ := b2_some h
            refine rcV 193 0 [.int x1, .int 0, .int s7, .int ((((mI m6 0 22)) + 1))] rfl rfl rfl (hSh.k 0 rfl _) (Nat.le_of_ble_eq_true rfl) rfl (e_Mo_solved N (by omega) hSh g10) ?_
            show RN xs L al (Ev xs L al d) 212 81 [(0, .ref 0), (2, .int x2), (3, .long r6)] [.long r10] (m10, S) (some (.int r0)) (mf, S)
            refine rsn 3 (t := (84, [(0, .ref 0), (2, .int x2), (3, .long r6)], [.int (((r10 - r6)).toInt32)])) rfl ?_
            cases h
            exact rret rfl ⟨rfl, rfl, _, _, rfl, rfl, rfl, rfl⟩
          · rw [if_neg c8] at h
            refine rjt (a := (74, [(0, .ref 0), (2, .int x2), (3, .long r6)], [.int s7, .int 0, .int x1, .ref 0])) (b := (65, [(0, .ref 0), (2, .int x2), (3, .long r6)], [.int s7, .int 0, .int x1, .ref 0])) rfl rfl c8 ?_
            refine rsn 1 (t := (75, [(0, .ref 0), (2, .int x2), (3, .long r6)], [.ref 0, .int s7, .int 0, .int x1, .ref 0])) rfl ?_
            refine pgI rfl rfl rfl (hSh.k 0 rfl _) ?_
            show RN xs L al (Ev xs L al d) 212 78 [(0, .ref 0), (2, .int x2), (3, .long r6)] [.int ((mI m6 0 22)), .int s7, .int 0, .int x1, .ref 0] (m6, S) (some (.int r0)) (mf, S)
            obtain ⟨r9, m9, g9, h⟩ := b2_some h
            refine rcV 193 0 [.int x1, .int 0, .int s7, .int ((mI m6 0 22))] rfl rfl rfl (hSh.k 0 rfl _) (Nat.le_of_ble_eq_true rfl) rfl (e_Mo_solved N (by omega) hSh g9) ?_
            show RN xs L al (Ev xs L al d) 212 81 [(0, .ref 0), (2, .int x2), (3, .long r6)] [.long r9] (m9, S) (some (.int r0)) (mf, S)
            refine rsn 3 (t := (84, [(0, .ref 0), (2, .int x2), (3, .long r6)], [.int (((r9 - r6)).toInt32)])) rfl ?_
            cases h
            exact rret rfl ⟨rfl, rfl, _, _, rfl, rfl, rfl, rfl⟩
        rw [jn] at h
        try dsimp only at h
        by_cases c11 : x2 = 0
        · rw [if_pos c11] at h
          refine rjf (a := (56, [(3, .long r6), (0, .ref 0), (1, .int x1), (2, .int x2)], [.int 0, .int x1, .ref 0])) (b := (47, [(3, .long r6), (0, .ref 0), (1, .int x1), (2, .int x2)], [.int 0, .int x1, .ref 0])) rfl rfl (fun q => q c11) ?_
          refine rsn 1 (t := (48, [(3, .long r6), (0, .ref 0), (1, .int x1), (2, .int x2)], [.ref 0, .int 0, .int x1, .ref 0])) rfl ?_
          refine pgI rfl rfl rfl (hSh.k 0 rfl _) ?_
          show RN xs L al (Ev xs L al d) 212 51 [(3, .long r6), (0, .ref 0), (1, .int x1), (2, .int x2)] [.int ((mI m6 0 21)), .int 0, .int x1, .ref 0] (m6, S) (some (.int r0)) (mf, S)
          refine rsn 3 (t := (60, [(3, .long r6), (0, .ref 0), (1, .int x1), (2, .int x2)], [.int ((((mI m6 0 21)) + 1)), .int 0, .int x1, .ref 0])) rfl ?_
          exact rsub [(0, .ref 0), (2, .int x2), (3, .long r6)] ⟨rfl, ⟨rfl, ⟨rfl, trivial⟩⟩⟩ ⟨rfl, ⟨rfl, ⟨rfl, trivial⟩⟩⟩ (jp60 ((((mI m6 0 21)) + 1)) h)
        · rw [if_neg c11] at h
          refine rjt (a := (56, [(3, .long r6), (0, .ref 0), (1, .int x1), (2, .int x2)], [.int 0, .int x1, .ref 0])) (b := (47, [(3, .long r6), (0, .ref 0), (1, .int x1), (2, .int x2)], [.int 0, .int x1, .ref 0])) rfl rfl c11 ?_
          refine rsn 1 (t := (57, [(3, .long r6), (0, .ref 0), (1, .int x1), (2, .int x2)], [.ref 0, .int 0, .int x1, .ref 0])) rfl ?_
          refine pgI rfl rfl rfl (hSh.k 0 rfl _) ?_
          show RN xs L al (Ev xs L al d) 212 60 [(3, .long r6), (0, .ref 0), (1, .int x1), (2, .int x2)] [.int ((mI m6 0 21)), .int 0, .int x1, .ref 0] (m6, S) (some (.int r0)) (mf, S)
          exact rsub [(0, .ref 0), (2, .int x2), (3, .long r6)] ⟨rfl, ⟨rfl, ⟨rfl, trivial⟩⟩⟩ ⟨rfl, ⟨rfl, ⟨rfl, trivial⟩⟩⟩ (jp60 ((mI m6 0 21)) h)
def f_Mo_paper_L27 (N : Nat) (x1 : Int32) (x2 : Int32) (m : Mm) (k27 : Int32 → Int32 → Option (Int32)) : Nat → Int32 → Int32 → Option (Int32)
  | 0, _, _ => none
  | n27 + 1, x3, x4 => f_Mo_paper_L27 N x1 x2 m k27 n27 x3 x4
def f_Mo_paper (N : Nat) (x1 : Int32) (x2 : Int32) (m : Mm) : Option (Int32) := b1 (f_Mo_isHeir N x1 m) fun r1 => (if r1 = 0 then some ((-1)) else b1 (f_Mo_in N x2 0 2) fun r3 => (if r3 = 0 then some ((-1)) else f_Mo_paper_L27 N x1 x2 m (fun (z5_3 : Int32) (z5_4 : Int32) => ck (ix ((((3 * x1)) + x2)) 9) (some ((z5_3 * ((mX m 7 (((((3 * x1)) + x2)).toNatClampNeg))))))) N 0 ((mI m 0 24))))
set_option maxRecDepth 20000 in
set_option maxHeartbeats 4000000 in
theorem e_Mo_paper {xs : Nat → Int32} {L : Nat} {al : Bool} (N : Nat) {d : Nat} (hd : 3 ≤ d) {S : St} (hSh : ShR S) {x1 : Int32} {x2 : Int32} {m : Mm} {r0 : Int32} (h : f_Mo_paper N x1 x2 m = some r0) : Ev xs L al d 213 [.ref 0, .int x1, .int x2] (m, S) (some (.int r0)) (m, S) := by
  obtain ⟨d, rfl⟩ : ∃ e, d = e + 1 := ⟨d - 1, by omega⟩
  refine ev_of (by decide) (Nat.le_of_ble_eq_true rfl) ?_
  rw [f_Mo_paper] at h
  show RN xs L al (Ev xs L al d) 213 0 [(0, .ref 0), (1, .int x1), (2, .int x2)] [] (m, S) (some (.int r0)) (m, S)
  refine rsn 2 (t := (2, [(0, .ref 0), (1, .int x1), (2, .int x2)], [.int x1, .ref 0])) rfl ?_
  obtain ⟨r1, g1, h⟩ := b1_some h
  refine rcV 172 0 [.int x1] rfl rfl rfl (hSh.k 0 rfl _) (Nat.le_of_ble_eq_true rfl) rfl (e_Mo_isHeir N (by omega) hSh g1) ?_
  show RN xs L al (Ev xs L al d) 213 5 [(0, .ref 0), (1, .int x1), (2, .int x2)] [.int r1] (m, S) (some (.int r0)) (m, S)
  by_cases c2 : r1 = 0
  · rw [if_pos c2] at h
    refine rjt (a := (17, [(0, .ref 0), (1, .int x1), (2, .int x2)], [])) (b := (8, [(0, .ref 0), (1, .int x1), (2, .int x2)], [])) rfl rfl c2 ?_
    refine rsn 1 (t := (18, [(0, .ref 0), (1, .int x1), (2, .int x2)], [.int ((-1))])) rfl ?_
    cases h
    exact rret rfl ⟨rfl, rfl, _, _, rfl, rfl, rfl, rfl⟩
  · rw [if_neg c2] at h
    refine rjf (a := (17, [(0, .ref 0), (1, .int x1), (2, .int x2)], [])) (b := (8, [(0, .ref 0), (1, .int x1), (2, .int x2)], [])) rfl rfl c2 ?_
    refine rsn 3 (t := (11, [(0, .ref 0), (1, .int x1), (2, .int x2)], [.int 2, .int 0, .int x2])) rfl ?_
    obtain ⟨r3, g3, h⟩ := b1_some h
    refine rcS 146 [.int x2, .int 0, .int 2] rfl rfl rfl (Nat.le_of_ble_eq_true rfl) rfl (e_Mo_in N (by omega) g3) ?_
    show RN xs L al (Ev xs L al d) 213 14 [(0, .ref 0), (1, .int x1), (2, .int x2)] [.int r3] (m, S) (some (.int r0)) (m, S)
    by_cases c4 : r3 = 0
    · rw [if_pos c4] at h
      refine rjf (a := (19, [(0, .ref 0), (1, .int x1), (2, .int x2)], [])) (b := (17, [(0, .ref 0), (1, .int x1), (2, .int x2)], [])) rfl rfl (fun q => q c4) ?_
      refine rsn 1 (t := (18, [(0, .ref 0), (1, .int x1), (2, .int x2)], [.int ((-1))])) rfl ?_
      cases h
      exact rret rfl ⟨rfl, rfl, _, _, rfl, rfl, rfl, rfl⟩
    · rw [if_neg c4] at h
      refine rjt (a := (19, [(0, .ref 0), (1, .int x1), (2, .int x2)], [])) (b := (17, [(0, .ref 0), (1, .int x1), (2, .int x2)], [])) rfl rfl c4 ?_
      refine rsn 3 (t := (22, [(3, .int 0), (0, .ref 0), (1, .int x1), (2, .int x2)], [.ref 0])) rfl ?_
      refine pgI rfl rfl rfl (hSh.k 0 rfl _) ?_
      show RN xs L al (Ev xs L al d) 213 25 [(3, .int 0), (0, .ref 0), (1, .int x1), (2, .int x2)] [.int ((mI m 0 24))] (m, S) (some (.int r0)) (m, S)
      refine rsn 1 (t := (27, [(4, .int ((mI m 0 24))), (3, .int 0), (0, .ref 0), (1, .int x1), (2, .int x2)], [])) rfl ?_
      have ex27 : ∀ (z5_3 : Int32) (z5_4 : Int32), (ck (ix ((((3 * x1)) + x2)) 9) (some ((z5_3 * ((mX m 7 (((((3 * x1)) + x2)).toNatClampNeg))))))) = some r0 → RN xs L al (Ev xs L al d) 213 100 [(0, .ref 0), (1, .int x1), (2, .int x2), (3, .int z5_3)] [] (m, S) (some (.int r0)) (m, S) := by
        intro z5_3 z5_4 h
        try dsimp only at h
        refine rsn 2 (t := (102, [(0, .ref 0), (1, .int x1), (2, .int x2), (3, .int z5_3)], [.ref 0, .int z5_3])) rfl ?_
        refine rgR rfl rfl rfl (hSh.k 0 rfl _) (hSh.r 6 rfl _) ?_
        refine rsn 5 (t := (110, [(0, .ref 0), (1, .int x1), (2, .int x2), (3, .int z5_3)], [.int ((((3 * x1)) + x2)), .ref 7, .int z5_3])) rfl ?_
        obtain ⟨c6, h⟩ := ck_some h
        refine pxI rfl (hSh.k 7 rfl _) (hSh.l 6 rfl _) c6 ?_
        show RN xs L al (Ev xs L al d) 213 111 [(0, .ref 0), (1, .int x1), (2, .int x2), (3, .int z5_3)] [.int ((mX m 7 (((((3 * x1)) + x2)).toNatClampNeg))), .int z5_3] (m, S) (some (.int r0)) (m, S)
        refine rsn 1 (t := (112, [(0, .ref 0), (1, .int x1), (2, .int x2), (3, .int z5_3)], [.int ((z5_3 * ((mX m 7 (((((3 * x1)) + x2)).toNatClampNeg)))))])) rfl ?_
        cases h
        exact rret rfl ⟨rfl, rfl, _, _, rfl, rfl, rfl, rfl⟩
      have lp27 : ∀ (n : Nat) (y7_3 : Int32) (y7_4 : Int32), (f_Mo_paper_L27 N x1 x2 m (fun (z5_3 : Int32) (z5_4 : Int32) => ck (ix ((((3 * x1)) + x2)) 9) (some ((z5_3 * ((mX m 7 (((((3 * x1)) + x2)).toNatClampNeg))))))) n y7_3 y7_4) = some r0 → RN xs L al (Ev xs L al d) 213 27 [(0, .ref 0), (1, .int x1), (2, .int x2), (3, .int y7_3), (4, .int y7_4)] [] (m, S) (some (.int r0)) (m, S) := by
        intro n
        induction n with
        | zero => intro y7_3 y7_4 h; exact absurd h (by simp [f_Mo_paper_L27])
        | succ n27 ih27 =>
          intro y7_3 y7_4 h
          try dsimp only at h
          rw [f_Mo_paper_L27] at h
          try dsimp only at h
          exact rsub [(0, .ref 0), (1, .int x1), (2, .int x2), (3, .int y7_3), (4, .int y7_4)] ⟨rfl, ⟨rfl, ⟨rfl, ⟨rfl, ⟨rfl, trivial⟩⟩⟩⟩⟩ ⟨rfl, ⟨rfl, ⟨rfl, ⟨rfl, ⟨rfl, trivial⟩⟩⟩⟩⟩ (ih27 y7_3 y7_4 h)
      exact rsub [(0, .ref 0), (1, .int x1), (2, .int x2), (3, .int 0), (4, .int ((mI m 0 24)))] ⟨rfl, ⟨rfl, ⟨rfl, ⟨rfl, ⟨rfl, trivial⟩⟩⟩⟩⟩ ⟨rfl, ⟨rfl, ⟨rfl, ⟨rfl, ⟨rfl, trivial⟩⟩⟩⟩⟩ (lp27 N 0 ((mI m 0 24)) h)
def f_Mo_judge_L42 (N : Nat) (x1 : Int32) (x2 : Int32) (m : Mm) (k42 : Int64 → Int32 → Option (Int32 × Mm)) : Nat → Int64 → Int32 → Option (Int32 × Mm)
  | 0, _, _ => none
  | n42 + 1, x3, x5 => f_Mo_judge_L42 N x1 x2 m k42 n42 x3 x5
def f_Mo_judge (N : Nat) (x1 : Int32) (x2 : Int32) (m : Mm) : Option (Int32 × Mm) := (if ((mI m 0 15)) = 0 then some (9, m) else (if ((mI m 0 25)) = ((-1)) then b2 (f_Mo_isAltRow N x1 m) fun r3 m3 => (if r3 = 0 then some (9, m3) else b2 (f_Mo_isRow N x2 m3) fun r5 m5 => (if r5 = 0 then some (9, m5) else f_Mo_judge_L42 N x1 x2 m5 (fun (z7_3 : Int64) (z7_5 : Int32) => some ((-1), (vJ m5 0 46 z7_3))) N ((mJ m5 0 23)) 0)) else some (9, m)))
set_option maxRecDepth 20000 in
set_option maxHeartbeats 4000000 in
theorem e_Mo_judge {xs : Nat → Int32} {L : Nat} {al : Bool} (N : Nat) {d : Nat} (hd : 4 ≤ d) {S : St} (hSh : ShR S) {x1 : Int32} {x2 : Int32} {m : Mm} {r0 : Int32} {mf : Mm} (h : f_Mo_judge N x1 x2 m = some (r0, mf)) : Ev xs L al d 214 [.ref 0, .int x1, .int x2] (m, S) (some (.int r0)) (mf, S) := by
  obtain ⟨d, rfl⟩ : ∃ e, d = e + 1 := ⟨d - 1, by omega⟩
  refine ev_of (by decide) (Nat.le_of_ble_eq_true rfl) ?_
  rw [f_Mo_judge] at h
  show RN xs L al (Ev xs L al d) 214 0 [(0, .ref 0), (1, .int x1), (2, .int x2)] [] (m, S) (some (.int r0)) (mf, S)
  refine rsn 1 (t := (1, [(0, .ref 0), (1, .int x1), (2, .int x2)], [.ref 0])) rfl ?_
  refine pgI rfl rfl rfl (hSh.k 0 rfl _) ?_
  show RN xs L al (Ev xs L al d) 214 4 [(0, .ref 0), (1, .int x1), (2, .int x2)] [.int ((mI m 0 15))] (m, S) (some (.int r0)) (mf, S)
  by_cases c1 : ((mI m 0 15)) = 0
  · rw [if_pos c1] at h
    refine rjt (a := (31, [(0, .ref 0), (1, .int x1), (2, .int x2)], [])) (b := (7, [(0, .ref 0), (1, .int x1), (2, .int x2)], [])) rfl rfl c1 ?_
    refine rsn 1 (t := (33, [(0, .ref 0), (1, .int x1), (2, .int x2)], [.int 9])) rfl ?_
    cases h
    exact rret rfl ⟨rfl, rfl, _, _, rfl, rfl, rfl, rfl⟩
  · rw [if_neg c1] at h
    refine rjf (a := (31, [(0, .ref 0), (1, .int x1), (2, .int x2)], [])) (b := (7, [(0, .ref 0), (1, .int x1), (2, .int x2)], [])) rfl rfl c1 ?_
    refine rsn 1 (t := (8, [(0, .ref 0), (1, .int x1), (2, .int x2)], [.ref 0])) rfl ?_
    refine pgI rfl rfl rfl (hSh.k 0 rfl _) ?_
    show RN xs L al (Ev xs L al d) 214 11 [(0, .ref 0), (1, .int x1), (2, .int x2)] [.int ((mI m 0 25))] (m, S) (some (.int r0)) (mf, S)
    refine rsn 1 (t := (12, [(0, .ref 0), (1, .int x1), (2, .int x2)], [.int ((-1)), .int ((mI m 0 25))])) rfl ?_
    by_cases c2 : ((mI m 0 25)) = ((-1))
    · rw [if_pos c2] at h
      refine rjf (a := (31, [(0, .ref 0), (1, .int x1), (2, .int x2)], [])) (b := (15, [(0, .ref 0), (1, .int x1), (2, .int x2)], [])) rfl rfl (fun q => q c2) ?_
      refine rsn 2 (t := (17, [(0, .ref 0), (1, .int x1), (2, .int x2)], [.int x1, .ref 0])) rfl ?_
      obtain ⟨r3, m3, g3, h⟩ := b2_some h
      refine rcV 204 0 [.int x1] rfl rfl rfl (hSh.k 0 rfl _) (Nat.le_of_ble_eq_true rfl) rfl (e_Mo_isAltRow N (by omega) hSh g3) ?_
      show RN xs L al (Ev xs L al d) 214 20 [(0, .ref 0), (1, .int x1), (2, .int x2)] [.int r3] (m3, S) (some (.int r0)) (mf, S)
      by_cases c4 : r3 = 0
      · rw [if_pos c4] at h
        refine rjt (a := (31, [(0, .ref 0), (1, .int x1), (2, .int x2)], [])) (b := (23, [(0, .ref 0), (1, .int x1), (2, .int x2)], [])) rfl rfl c4 ?_
        refine rsn 1 (t := (33, [(0, .ref 0), (1, .int x1), (2, .int x2)], [.int 9])) rfl ?_
        cases h
        exact rret rfl ⟨rfl, rfl, _, _, rfl, rfl, rfl, rfl⟩
      · rw [if_neg c4] at h
        refine rjf (a := (31, [(0, .ref 0), (1, .int x1), (2, .int x2)], [])) (b := (23, [(0, .ref 0), (1, .int x1), (2, .int x2)], [])) rfl rfl c4 ?_
        refine rsn 2 (t := (25, [(0, .ref 0), (1, .int x1), (2, .int x2)], [.int x2, .ref 0])) rfl ?_
        obtain ⟨r5, m5, g5, h⟩ := b2_some h
        refine rcV 205 0 [.int x2] rfl rfl rfl (hSh.k 0 rfl _) (Nat.le_of_ble_eq_true rfl) rfl (e_Mo_isRow N (by omega) hSh g5) ?_
        show RN xs L al (Ev xs L al d) 214 28 [(0, .ref 0), (1, .int x1), (2, .int x2)] [.int r5] (m5, S) (some (.int r0)) (mf, S)
        by_cases c6 : r5 = 0
        · rw [if_pos c6] at h
          refine rjf (a := (34, [(0, .ref 0), (1, .int x1), (2, .int x2)], [])) (b := (31, [(0, .ref 0), (1, .int x1), (2, .int x2)], [])) rfl rfl (fun q => q c6) ?_
          refine rsn 1 (t := (33, [(0, .ref 0), (1, .int x1), (2, .int x2)], [.int 9])) rfl ?_
          cases h
          exact rret rfl ⟨rfl, rfl, _, _, rfl, rfl, rfl, rfl⟩
        · rw [if_neg c6] at h
          refine rjt (a := (34, [(0, .ref 0), (1, .int x1), (2, .int x2)], [])) (b := (31, [(0, .ref 0), (1, .int x1), (2, .int x2)], [])) rfl rfl c6 ?_
          refine rsn 1 (t := (35, [(0, .ref 0), (1, .int x1), (2, .int x2)], [.ref 0])) rfl ?_
          refine pgJ rfl rfl rfl (hSh.k 0 rfl _) ?_
          show RN xs L al (Ev xs L al d) 214 38 [(0, .ref 0), (1, .int x1), (2, .int x2)] [.long ((mJ m5 0 23))] (m5, S) (some (.int r0)) (mf, S)
          refine rsn 3 (t := (42, [(5, .int 0), (3, .long ((mJ m5 0 23))), (0, .ref 0), (1, .int x1), (2, .int x2)], [])) rfl ?_
          have ex42 : ∀ (z7_3 : Int64) (z7_5 : Int32), (some ((-1), (vJ m5 0 46 z7_3))) = some (r0, mf) → RN xs L al (Ev xs L al d) 214 182 [(0, .ref 0), (3, .long z7_3)] [] (m5, S) (some (.int r0)) (mf, S) := by
            intro z7_3 z7_5 h
            try dsimp only at h
            refine rsn 2 (t := (184, [(0, .ref 0), (3, .long z7_3)], [.long z7_3, .ref 0])) rfl ?_
            refine ppJ rfl rfl rfl rfl (hSh.k 0 rfl _) ?_
            refine rsn 1 (t := (188, [(0, .ref 0), (3, .long z7_3)], [.int ((-1))])) rfl ?_
            cases h
            exact rret rfl ⟨rfl, rfl, _, _, rfl, rfl, rfl, rfl⟩
          have lp42 : ∀ (n : Nat) (y8_3 : Int64) (y8_5 : Int32), (f_Mo_judge_L42 N x1 x2 m5 (fun (z7_3 : Int64) (z7_5 : Int32) => some ((-1), (vJ m5 0 46 z7_3))) n y8_3 y8_5) = some (r0, mf) → RN xs L al (Ev xs L al d) 214 42 [(0, .ref 0), (1, .int x1), (2, .int x2), (3, .long y8_3), (5, .int y8_5)] [] (m5, S) (some (.int r0)) (mf, S) := by
            intro n
            induction n with
            | zero => intro y8_3 y8_5 h; exact absurd h (by simp [f_Mo_judge_L42])
            | succ n42 ih42 =>
              intro y8_3 y8_5 h
              try dsimp only at h
              rw [f_Mo_judge_L42] at h
              try dsimp only at h
              exact rsub [(0, .ref 0), (1, .int x1), (2, .int x2), (3, .long y8_3), (5, .int y8_5)] ⟨rfl, ⟨rfl, ⟨rfl, ⟨rfl, ⟨rfl, trivial⟩⟩⟩⟩⟩ ⟨rfl, ⟨rfl, ⟨rfl, ⟨rfl, ⟨rfl, trivial⟩⟩⟩⟩⟩ (ih42 y8_3 y8_5 h)
          exact rsub [(0, .ref 0), (1, .int x1), (2, .int x2), (3, .long ((mJ m5 0 23))), (5, .int 0)] ⟨rfl, ⟨rfl, ⟨rfl, ⟨rfl, ⟨rfl, trivial⟩⟩⟩⟩⟩ ⟨rfl, ⟨rfl, ⟨rfl, ⟨rfl, ⟨rfl, trivial⟩⟩⟩⟩⟩ (lp42 N ((mJ m5 0 23)) 0 h)
    · rw [if_neg c2] at h
      refine rjt (a := (31, [(0, .ref 0), (1, .int x1), (2, .int x2)], [])) (b := (15, [(0, .ref 0), (1, .int x1), (2, .int x2)], [])) rfl rfl c2 ?_
      refine rsn 1 (t := (33, [(0, .ref 0), (1, .int x1), (2, .int x2)], [.int 9])) rfl ?_
      cases h
      exact rret rfl ⟨rfl, rfl, _, _, rfl, rfl, rfl, rfl⟩
def f_Mo_judged (N : Nat) (x1 : Int32) (x2 : Int32) (x3 : Int32) (m : Mm) : Option (Int32 × Mm) := b1 (f_Mo_isGoal N x1) fun r1 => (if r1 = 0 then some ((-2147483648), m) else b2 (f_Mo_judge N x2 x3 m) fun r3 m3 => (if r3 = ((-1)) then b2 (f_Mo_ends N ((mJ m3 0 46)) x1 ((mI m3 0 22)) m3) fun r5 m5 => some (r5, m5) else some ((-2147483648), m3)))
set_option maxRecDepth 20000 in
set_option maxHeartbeats 4000000 in
theorem e_Mo_judged {xs : Nat → Int32} {L : Nat} {al : Bool} (N : Nat) {d : Nat} (hd : 8 ≤ d) {S : St} (hSh : ShR S) {x1 : Int32} {x2 : Int32} {x3 : Int32} {m : Mm} {r0 : Int32} {mf : Mm} (h : f_Mo_judged N x1 x2 x3 m = some (r0, mf)) : Ev xs L al d 215 [.ref 0, .int x1, .int x2, .int x3] (m, S) (some (.int r0)) (mf, S) := by
  obtain ⟨d, rfl⟩ : ∃ e, d = e + 1 := ⟨d - 1, by omega⟩
  refine ev_of (by decide) (Nat.le_of_ble_eq_true rfl) ?_
  rw [f_Mo_judged] at h
  show RN xs L al (Ev xs L al d) 215 0 [(0, .ref 0), (1, .int x1), (2, .int x2), (3, .int x3)] [] (m, S) (some (.int r0)) (mf, S)
  refine rsn 1 (t := (1, [(0, .ref 0), (1, .int x1), (2, .int x2), (3, .int x3)], [.int x1])) rfl ?_
  obtain ⟨r1, g1, h⟩ := b1_some h
  refine rcS 184 [.int x1] rfl rfl rfl (Nat.le_of_ble_eq_true rfl) rfl (e_Mo_isGoal N (by omega) g1) ?_
  show RN xs L al (Ev xs L al d) 215 4 [(0, .ref 0), (1, .int x1), (2, .int x2), (3, .int x3)] [.int r1] (m, S) (some (.int r0)) (mf, S)
  by_cases c2 : r1 = 0
  · rw [if_pos c2] at h
    refine rjt (a := (33, [(0, .ref 0), (1, .int x1), (2, .int x2), (3, .int x3)], [])) (b := (7, [(0, .ref 0), (1, .int x1), (2, .int x2), (3, .int x3)], [])) rfl rfl c2 ?_
    refine rsn 1 (t := (36, [(0, .ref 0), (1, .int x1), (2, .int x2), (3, .int x3)], [.int ((-2147483648))])) rfl ?_
    cases h
    exact rret rfl ⟨rfl, rfl, _, _, rfl, rfl, rfl, rfl⟩
  · rw [if_neg c2] at h
    refine rjf (a := (33, [(0, .ref 0), (1, .int x1), (2, .int x2), (3, .int x3)], [])) (b := (7, [(0, .ref 0), (1, .int x1), (2, .int x2), (3, .int x3)], [])) rfl rfl c2 ?_
    refine rsn 3 (t := (10, [(0, .ref 0), (1, .int x1), (2, .int x2), (3, .int x3)], [.int x3, .int x2, .ref 0])) rfl ?_
    obtain ⟨r3, m3, g3, h⟩ := b2_some h
    refine rcV 214 0 [.int x2, .int x3] rfl rfl rfl (hSh.k 0 rfl _) (Nat.le_of_ble_eq_true rfl) rfl (e_Mo_judge N (by omega) hSh g3) ?_
    show RN xs L al (Ev xs L al d) 215 13 [(0, .ref 0), (1, .int x1), (2, .int x2), (3, .int x3)] [.int r3] (m3, S) (some (.int r0)) (mf, S)
    refine rsn 1 (t := (14, [(0, .ref 0), (1, .int x1), (2, .int x2), (3, .int x3)], [.int ((-1)), .int r3])) rfl ?_
    by_cases c4 : r3 = ((-1))
    · rw [if_pos c4] at h
      refine rjf (a := (33, [(0, .ref 0), (1, .int x1), (2, .int x2), (3, .int x3)], [])) (b := (17, [(0, .ref 0), (1, .int x1), (2, .int x2), (3, .int x3)], [])) rfl rfl (fun q => q c4) ?_
      refine rsn 2 (t := (19, [(0, .ref 0), (1, .int x1), (2, .int x2), (3, .int x3)], [.ref 0, .ref 0])) rfl ?_
      refine pgJ rfl rfl rfl (hSh.k 0 rfl _) ?_
      show RN xs L al (Ev xs L al d) 215 22 [(0, .ref 0), (1, .int x1), (2, .int x2), (3, .int x3)] [.long ((mJ m3 0 46)), .ref 0] (m3, S) (some (.int r0)) (mf, S)
      refine rsn 2 (t := (24, [(0, .ref 0), (1, .int x1), (2, .int x2), (3, .int x3)], [.ref 0, .int x1, .long ((mJ m3 0 46)), .ref 0])) rfl ?_
      refine pgI rfl rfl rfl (hSh.k 0 rfl _) ?_
      show RN xs L al (Ev xs L al d) 215 27 [(0, .ref 0), (1, .int x1), (2, .int x2), (3, .int x3)] [.int ((mI m3 0 22)), .int x1, .long ((mJ m3 0 46)), .ref 0] (m3, S) (some (.int r0)) (mf, S)
      obtain ⟨r5, m5, g5, h⟩ := b2_some h
      refine rcV 185 0 [.long ((mJ m3 0 46)), .int x1, .int ((mI m3 0 22))] rfl rfl rfl (hSh.k 0 rfl _) (Nat.le_of_ble_eq_true rfl) rfl (e_Mo_ends N (by omega) hSh g5) ?_
      show RN xs L al (Ev xs L al d) 215 30 [(0, .ref 0), (1, .int x1), (2, .int x2), (3, .int x3)] [.int r5] (m5, S) (some (.int r0)) (mf, S)
      refine rsn 1 (t := (36, [(0, .ref 0), (1, .int x1), (2, .int x2), (3, .int x3)], [.int r5])) rfl ?_
      cases h
      exact rret rfl ⟨rfl, rfl, _, _, rfl, rfl, rfl, rfl⟩
    · rw [if_neg c4] at h
      refine rjt (a := (33, [(0, .ref 0), (1, .int x1), (2, .int x2), (3, .int x3)], [])) (b := (17, [(0, .ref 0), (1, .int x1), (2, .int x2), (3, .int x3)], [])) rfl rfl c4 ?_
      refine rsn 1 (t := (36, [(0, .ref 0), (1, .int x1), (2, .int x2), (3, .int x3)], [.int ((-2147483648))])) rfl ?_
      cases h
      exact rret rfl ⟨rfl, rfl, _, _, rfl, rfl, rfl, rfl⟩
def f_Mo_image (N : Nat) (x1 : Int32) (m : Mm) : Option (Int32 × Mm) := (if ((mI m 0 15)) = 0 then some (0, m) else b1 (f_Mo_in N x1 0 3) fun r2 => (if r2 = 0 then some (0, m) else ck (ix x1 4) (ck (ix x1 4) (ck (ix x1 4) (ck (ix x1 4) (some (1, (vX (vX (vX (vY m 10 x1.toNatClampNeg ((mJ m 0 23))) 11 x1.toNatClampNeg ((mI m 0 24))) 12 x1.toNatClampNeg ((mI m 0 25))) 13 x1.toNatClampNeg ((vp_nar .boolean 1))))))))))
set_option maxRecDepth 20000 in
set_option maxHeartbeats 4000000 in
theorem e_Mo_image {xs : Nat → Int32} {L : Nat} {al : Bool} (N : Nat) {d : Nat} (hd : 2 ≤ d) {S : St} (hSh : ShR S) {x1 : Int32} {m : Mm} {r0 : Int32} {mf : Mm} (h : f_Mo_image N x1 m = some (r0, mf)) : Ev xs L al d 216 [.ref 0, .int x1] (m, S) (some (.int r0)) (mf, S) := by
  obtain ⟨d, rfl⟩ : ∃ e, d = e + 1 := ⟨d - 1, by omega⟩
  refine ev_of (by decide) (Nat.le_of_ble_eq_true rfl) ?_
  rw [f_Mo_image] at h
  show RN xs L al (Ev xs L al d) 216 0 [(0, .ref 0), (1, .int x1)] [] (m, S) (some (.int r0)) (mf, S)
  refine rsn 1 (t := (1, [(0, .ref 0), (1, .int x1)], [.ref 0])) rfl ?_
  refine pgI rfl rfl rfl (hSh.k 0 rfl _) ?_
  show RN xs L al (Ev xs L al d) 216 4 [(0, .ref 0), (1, .int x1)] [.int ((mI m 0 15))] (m, S) (some (.int r0)) (mf, S)
  by_cases c1 : ((mI m 0 15)) = 0
  · rw [if_pos c1] at h
    refine rjt (a := (16, [(0, .ref 0), (1, .int x1)], [])) (b := (7, [(0, .ref 0), (1, .int x1)], [])) rfl rfl c1 ?_
    refine rsn 1 (t := (17, [(0, .ref 0), (1, .int x1)], [.int 0])) rfl ?_
    cases h
    exact rret rfl ⟨rfl, rfl, _, _, rfl, rfl, rfl, rfl⟩
  · rw [if_neg c1] at h
    refine rjf (a := (16, [(0, .ref 0), (1, .int x1)], [])) (b := (7, [(0, .ref 0), (1, .int x1)], [])) rfl rfl c1 ?_
    refine rsn 3 (t := (10, [(0, .ref 0), (1, .int x1)], [.int 3, .int 0, .int x1])) rfl ?_
    obtain ⟨r2, g2, h⟩ := b1_some h
    refine rcS 146 [.int x1, .int 0, .int 3] rfl rfl rfl (Nat.le_of_ble_eq_true rfl) rfl (e_Mo_in N (by omega) g2) ?_
    show RN xs L al (Ev xs L al d) 216 13 [(0, .ref 0), (1, .int x1)] [.int r2] (m, S) (some (.int r0)) (mf, S)
    by_cases c3 : r2 = 0
    · rw [if_pos c3] at h
      refine rjf (a := (18, [(0, .ref 0), (1, .int x1)], [])) (b := (16, [(0, .ref 0), (1, .int x1)], [])) rfl rfl (fun q => q c3) ?_
      refine rsn 1 (t := (17, [(0, .ref 0), (1, .int x1)], [.int 0])) rfl ?_
      cases h
      exact rret rfl ⟨rfl, rfl, _, _, rfl, rfl, rfl, rfl⟩
    · rw [if_neg c3] at h
      refine rjt (a := (18, [(0, .ref 0), (1, .int x1)], [])) (b := (16, [(0, .ref 0), (1, .int x1)], [])) rfl rfl c3 ?_
      refine rsn 1 (t := (19, [(0, .ref 0), (1, .int x1)], [.ref 0])) rfl ?_
      refine rgR rfl rfl rfl (hSh.k 0 rfl _) (hSh.r 9 rfl _) ?_
      refine rsn 2 (t := (24, [(0, .ref 0), (1, .int x1)], [.ref 0, .int x1, .ref 10])) rfl ?_
      refine pgJ rfl rfl rfl (hSh.k 0 rfl _) ?_
      show RN xs L al (Ev xs L al d) 216 27 [(0, .ref 0), (1, .int x1)] [.long ((mJ m 0 23)), .int x1, .ref 10] (m, S) (some (.int r0)) (mf, S)
      obtain ⟨c4, h⟩ := ck_some h
      refine psJ rfl (hSh.k 10 rfl _) (hSh.l 9 rfl _) c4 ?_
      refine rsn 1 (t := (29, [(0, .ref 0), (1, .int x1)], [.ref 0])) rfl ?_
      refine rgR rfl rfl rfl (hSh.k 0 rfl _) (hSh.r 10 rfl _) ?_
      refine rsn 2 (t := (34, [(0, .ref 0), (1, .int x1)], [.ref 0, .int x1, .ref 11])) rfl ?_
      refine pgI rfl rfl rfl (hSh.k 0 rfl _) ?_
      show RN xs L al (Ev xs L al d) 216 37 [(0, .ref 0), (1, .int x1)] [.int ((mI m 0 24)), .int x1, .ref 11] ((vY m 10 x1.toNatClampNeg ((mJ m 0 23))), S) (some (.int r0)) (mf, S)
      obtain ⟨c5, h⟩ := ck_some h
      refine psI rfl (hSh.k 11 rfl _) (hSh.l 10 rfl _) c5 ?_
      refine rsn 1 (t := (39, [(0, .ref 0), (1, .int x1)], [.ref 0])) rfl ?_
      refine rgR rfl rfl rfl (hSh.k 0 rfl _) (hSh.r 11 rfl _) ?_
      refine rsn 2 (t := (44, [(0, .ref 0), (1, .int x1)], [.ref 0, .int x1, .ref 12])) rfl ?_
      refine pgI rfl rfl rfl (hSh.k 0 rfl _) ?_
      show RN xs L al (Ev xs L al d) 216 47 [(0, .ref 0), (1, .int x1)] [.int ((mI m 0 25)), .int x1, .ref 12] ((vX (vY m 10 x1.toNatClampNeg ((mJ m 0 23))) 11 x1.toNatClampNeg ((mI m 0 24))), S) (some (.int r0)) (mf, S)
      obtain ⟨c6, h⟩ := ck_some h
      refine psI rfl (hSh.k 12 rfl _) (hSh.l 11 rfl _) c6 ?_
      refine rsn 1 (t := (49, [(0, .ref 0), (1, .int x1)], [.ref 0])) rfl ?_
      refine rgR rfl rfl rfl (hSh.k 0 rfl _) (hSh.r 12 rfl _) ?_
      refine rsn 2 (t := (54, [(0, .ref 0), (1, .int x1)], [.int 1, .int x1, .ref 13])) rfl ?_
      obtain ⟨c7, h⟩ := ck_some h
      refine psZ rfl (hSh.k 13 rfl _) (hSh.l 12 rfl _) c7 ?_
      refine rsn 1 (t := (56, [(0, .ref 0), (1, .int x1)], [.int 1])) rfl ?_
      cases h
      exact rret rfl ⟨rfl, rfl, _, _, rfl, rfl, rfl, rfl⟩
def f_Mo_on (N : Nat) (x1 : Int32) (m : Mm) : Option (Int32 × Mm) := b1 (f_Mo_in N x1 0 3) fun r1 => (if r1 = 0 then some (0, m) else ck (ix x1 4) ((if ((mX m 13 x1.toNatClampNeg)) = 0 then some (0, m) else ck (ix x1 4) (ck (ix x1 4) (ck (ix x1 4) (some (1, (vI (vI (vJ m 0 23 ((mYy m 10 x1.toNatClampNeg))) 0 24 ((mX m 11 x1.toNatClampNeg))) 0 25 ((mX m 12 x1.toNatClampNeg))))))))))
set_option maxRecDepth 20000 in
set_option maxHeartbeats 4000000 in
theorem e_Mo_on {xs : Nat → Int32} {L : Nat} {al : Bool} (N : Nat) {d : Nat} (hd : 2 ≤ d) {S : St} (hSh : ShR S) {x1 : Int32} {m : Mm} {r0 : Int32} {mf : Mm} (h : f_Mo_on N x1 m = some (r0, mf)) : Ev xs L al d 217 [.ref 0, .int x1] (m, S) (some (.int r0)) (mf, S) := by
  obtain ⟨d, rfl⟩ : ∃ e, d = e + 1 := ⟨d - 1, by omega⟩
  refine ev_of (by decide) (Nat.le_of_ble_eq_true rfl) ?_
  rw [f_Mo_on] at h
  show RN xs L al (Ev xs L al d) 217 0 [(0, .ref 0), (1, .int x1)] [] (m, S) (some (.int r0)) (mf, S)
  refine rsn 3 (t := (3, [(0, .ref 0), (1, .int x1)], [.int 3, .int 0, .int x1])) rfl ?_
  obtain ⟨r1, g1, h⟩ := b1_some h
  refine rcS 146 [.int x1, .int 0, .int 3] rfl rfl rfl (Nat.le_of_ble_eq_true rfl) rfl (e_Mo_in N (by omega) g1) ?_
  show RN xs L al (Ev xs L al d) 217 6 [(0, .ref 0), (1, .int x1)] [.int r1] (m, S) (some (.int r0)) (mf, S)
  by_cases c2 : r1 = 0
  · rw [if_pos c2] at h
    refine rjt (a := (18, [(0, .ref 0), (1, .int x1)], [])) (b := (9, [(0, .ref 0), (1, .int x1)], [])) rfl rfl c2 ?_
    refine rsn 1 (t := (19, [(0, .ref 0), (1, .int x1)], [.int 0])) rfl ?_
    cases h
    exact rret rfl ⟨rfl, rfl, _, _, rfl, rfl, rfl, rfl⟩
  · rw [if_neg c2] at h
    refine rjf (a := (18, [(0, .ref 0), (1, .int x1)], [])) (b := (9, [(0, .ref 0), (1, .int x1)], [])) rfl rfl c2 ?_
    refine rsn 1 (t := (10, [(0, .ref 0), (1, .int x1)], [.ref 0])) rfl ?_
    refine rgR rfl rfl rfl (hSh.k 0 rfl _) (hSh.r 12 rfl _) ?_
    refine rsn 1 (t := (14, [(0, .ref 0), (1, .int x1)], [.int x1, .ref 13])) rfl ?_
    obtain ⟨c3, h⟩ := ck_some h
    refine pxB rfl (Or.inr (hSh.k 13 rfl _)) (hSh.l 12 rfl _) c3 ?_
    show RN xs L al (Ev xs L al d) 217 15 [(0, .ref 0), (1, .int x1)] [.int ((mX m 13 x1.toNatClampNeg))] (m, S) (some (.int r0)) (mf, S)
    by_cases c4 : ((mX m 13 x1.toNatClampNeg)) = 0
    · rw [if_pos c4] at h
      refine rjf (a := (20, [(0, .ref 0), (1, .int x1)], [])) (b := (18, [(0, .ref 0), (1, .int x1)], [])) rfl rfl (fun q => q c4) ?_
      refine rsn 1 (t := (19, [(0, .ref 0), (1, .int x1)], [.int 0])) rfl ?_
      cases h
      exact rret rfl ⟨rfl, rfl, _, _, rfl, rfl, rfl, rfl⟩
    · rw [if_neg c4] at h
      refine rjt (a := (20, [(0, .ref 0), (1, .int x1)], [])) (b := (18, [(0, .ref 0), (1, .int x1)], [])) rfl rfl c4 ?_
      refine rsn 2 (t := (22, [(0, .ref 0), (1, .int x1)], [.ref 0, .ref 0])) rfl ?_
      refine rgR rfl rfl rfl (hSh.k 0 rfl _) (hSh.r 9 rfl _) ?_
      refine rsn 1 (t := (26, [(0, .ref 0), (1, .int x1)], [.int x1, .ref 10, .ref 0])) rfl ?_
      obtain ⟨c5, h⟩ := ck_some h
      refine pxJ rfl (hSh.k 10 rfl _) (hSh.l 9 rfl _) c5 ?_
      show RN xs L al (Ev xs L al d) 217 27 [(0, .ref 0), (1, .int x1)] [.long ((mYy m 10 x1.toNatClampNeg)), .ref 0] (m, S) (some (.int r0)) (mf, S)
      refine ppJ rfl rfl rfl rfl (hSh.k 0 rfl _) ?_
      refine rsn 2 (t := (32, [(0, .ref 0), (1, .int x1)], [.ref 0, .ref 0])) rfl ?_
      refine rgR rfl rfl rfl (hSh.k 0 rfl _) (hSh.r 10 rfl _) ?_
      refine rsn 1 (t := (36, [(0, .ref 0), (1, .int x1)], [.int x1, .ref 11, .ref 0])) rfl ?_
      obtain ⟨c6, h⟩ := ck_some h
      refine pxI rfl (hSh.k 11 rfl _) (hSh.l 10 rfl _) c6 ?_
      show RN xs L al (Ev xs L al d) 217 37 [(0, .ref 0), (1, .int x1)] [.int ((mX m 11 x1.toNatClampNeg)), .ref 0] ((vJ m 0 23 ((mYy m 10 x1.toNatClampNeg))), S) (some (.int r0)) (mf, S)
      refine ppI rfl rfl rfl rfl (hSh.k 0 rfl _) ?_
      refine rsn 2 (t := (42, [(0, .ref 0), (1, .int x1)], [.ref 0, .ref 0])) rfl ?_
      refine rgR rfl rfl rfl (hSh.k 0 rfl _) (hSh.r 11 rfl _) ?_
      refine rsn 1 (t := (46, [(0, .ref 0), (1, .int x1)], [.int x1, .ref 12, .ref 0])) rfl ?_
      obtain ⟨c7, h⟩ := ck_some h
      refine pxI rfl (hSh.k 12 rfl _) (hSh.l 11 rfl _) c7 ?_
      show RN xs L al (Ev xs L al d) 217 47 [(0, .ref 0), (1, .int x1)] [.int ((mX m 12 x1.toNatClampNeg)), .ref 0] ((vI (vJ m 0 23 ((mYy m 10 x1.toNatClampNeg))) 0 24 ((mX m 11 x1.toNatClampNeg))), S) (some (.int r0)) (mf, S)
      refine ppI rfl rfl rfl rfl (hSh.k 0 rfl _) ?_
      refine rsn 1 (t := (51, [(0, .ref 0), (1, .int x1)], [.int 1])) rfl ?_
      cases h
      exact rret rfl ⟨rfl, rfl, _, _, rfl, rfl, rfl, rfl⟩
def f_Mo_count (N : Nat) (x1 : Int32) (m : Mm) : Option (Int32) := (if x1 = 0 then some ((mI m 0 16)) else (if x1 = 1 then some ((mI m 0 18)) else (if x1 = 2 then some ((mI m 0 24)) else (if x1 = 3 then some (((((lsr ((mJ m 0 23)) 36)).toInt32) &&& 7)) else (if x1 = 4 then b1 (f_Mo_held N ((mJ m 0 23))) fun r1 => some r1 else (if x1 = 5 then some ((mI m 0 25)) else (if x1 = 6 then some ((mI m 0 21)) else (if x1 = 7 then some ((mI m 0 22)) else (if x1 = 8 then some ((mI m 0 1)) else some ((-1)))))))))))
set_option maxRecDepth 20000 in
set_option maxHeartbeats 4000000 in
theorem e_Mo_count {xs : Nat → Int32} {L : Nat} {al : Bool} (N : Nat) {d : Nat} (hd : 3 ≤ d) {S : St} (hSh : ShR S) {x1 : Int32} {m : Mm} {r0 : Int32} (h : f_Mo_count N x1 m = some r0) : Ev xs L al d 218 [.ref 0, .int x1] (m, S) (some (.int r0)) (m, S) := by
  obtain ⟨d, rfl⟩ : ∃ e, d = e + 1 := ⟨d - 1, by omega⟩
  refine ev_of (by decide) (Nat.le_of_ble_eq_true rfl) ?_
  rw [f_Mo_count] at h
  show RN xs L al (Ev xs L al d) 218 0 [(0, .ref 0), (1, .int x1)] [] (m, S) (some (.int r0)) (m, S)
  refine rsn 1 (t := (1, [(0, .ref 0), (1, .int x1)], [.int x1])) rfl ?_
  by_cases c2 : x1 = 0
  · rw [if_pos c2] at h
    refine rs (t := (52, [(0, .ref 0), (1, .int x1)], [])) rfl (by rw [c2]; exact sw_i (pc := 1) (o := 51) ⟨by decide, by simp⟩ (by decide) (by decide)) ?_
    refine rsn 1 (t := (53, [(0, .ref 0), (1, .int x1)], [.ref 0])) rfl ?_
    refine pgI rfl rfl rfl (hSh.k 0 rfl _) ?_
    show RN xs L al (Ev xs L al d) 218 56 [(0, .ref 0), (1, .int x1)] [.int ((mI m 0 16))] (m, S) (some (.int r0)) (m, S)
    cases h
    exact rret rfl ⟨rfl, rfl, _, _, rfl, rfl, rfl, rfl⟩
  rw [if_neg c2] at h
  by_cases c3 : x1 = 1
  · rw [if_pos c3] at h
    refine rs (t := (57, [(0, .ref 0), (1, .int x1)], [])) rfl (by rw [c3]; exact sw_i (pc := 1) (o := 56) ⟨by decide, by simp⟩ (by decide) (by decide)) ?_
    refine rsn 1 (t := (58, [(0, .ref 0), (1, .int x1)], [.ref 0])) rfl ?_
    refine pgI rfl rfl rfl (hSh.k 0 rfl _) ?_
    show RN xs L al (Ev xs L al d) 218 61 [(0, .ref 0), (1, .int x1)] [.int ((mI m 0 18))] (m, S) (some (.int r0)) (m, S)
    cases h
    exact rret rfl ⟨rfl, rfl, _, _, rfl, rfl, rfl, rfl⟩
  rw [if_neg c3] at h
  by_cases c4 : x1 = 2
  · rw [if_pos c4] at h
    refine rs (t := (62, [(0, .ref 0), (1, .int x1)], [])) rfl (by rw [c4]; exact sw_i (pc := 1) (o := 61) ⟨by decide, by simp⟩ (by decide) (by decide)) ?_
    refine rsn 1 (t := (63, [(0, .ref 0), (1, .int x1)], [.ref 0])) rfl ?_
    refine pgI rfl rfl rfl (hSh.k 0 rfl _) ?_
    show RN xs L al (Ev xs L al d) 218 66 [(0, .ref 0), (1, .int x1)] [.int ((mI m 0 24))] (m, S) (some (.int r0)) (m, S)
    cases h
    exact rret rfl ⟨rfl, rfl, _, _, rfl, rfl, rfl, rfl⟩
  rw [if_neg c4] at h
  by_cases c5 : x1 = 3
  · rw [if_pos c5] at h
    refine rs (t := (67, [(0, .ref 0), (1, .int x1)], [])) rfl (by rw [c5]; exact sw_i (pc := 1) (o := 66) ⟨by decide, by simp⟩ (by decide) (by decide)) ?_
    refine rsn 1 (t := (68, [(0, .ref 0), (1, .int x1)], [.ref 0])) rfl ?_
    refine pgJ rfl rfl rfl (hSh.k 0 rfl _) ?_
    show RN xs L al (Ev xs L al d) 218 71 [(0, .ref 0), (1, .int x1)] [.long ((mJ m 0 23))] (m, S) (some (.int r0)) (m, S)
    refine rsn 5 (t := (78, [(0, .ref 0), (1, .int x1)], [.int (((((lsr ((mJ m 0 23)) 36)).toInt32) &&& 7))])) rfl ?_
    cases h
    exact rret rfl ⟨rfl, rfl, _, _, rfl, rfl, rfl, rfl⟩
  rw [if_neg c5] at h
  by_cases c6 : x1 = 4
  · rw [if_pos c6] at h
    refine rs (t := (79, [(0, .ref 0), (1, .int x1)], [])) rfl (by rw [c6]; exact sw_i (pc := 1) (o := 78) ⟨by decide, by simp⟩ (by decide) (by decide)) ?_
    refine rsn 1 (t := (80, [(0, .ref 0), (1, .int x1)], [.ref 0])) rfl ?_
    refine pgJ rfl rfl rfl (hSh.k 0 rfl _) ?_
    show RN xs L al (Ev xs L al d) 218 83 [(0, .ref 0), (1, .int x1)] [.long ((mJ m 0 23))] (m, S) (some (.int r0)) (m, S)
    obtain ⟨r1, g1, h⟩ := b1_some h
    refine rcS 181 [.long ((mJ m 0 23))] rfl rfl rfl (Nat.le_of_ble_eq_true rfl) rfl (e_Mo_held N (by omega) g1) ?_
    show RN xs L al (Ev xs L al d) 218 86 [(0, .ref 0), (1, .int x1)] [.int r1] (m, S) (some (.int r0)) (m, S)
    cases h
    exact rret rfl ⟨rfl, rfl, _, _, rfl, rfl, rfl, rfl⟩
  rw [if_neg c6] at h
  by_cases c7 : x1 = 5
  · rw [if_pos c7] at h
    refine rs (t := (87, [(0, .ref 0), (1, .int x1)], [])) rfl (by rw [c7]; exact sw_i (pc := 1) (o := 86) ⟨by decide, by simp⟩ (by decide) (by decide)) ?_
    refine rsn 1 (t := (88, [(0, .ref 0), (1, .int x1)], [.ref 0])) rfl ?_
    refine pgI rfl rfl rfl (hSh.k 0 rfl _) ?_
    show RN xs L al (Ev xs L al d) 218 91 [(0, .ref 0), (1, .int x1)] [.int ((mI m 0 25))] (m, S) (some (.int r0)) (m, S)
    cases h
    exact rret rfl ⟨rfl, rfl, _, _, rfl, rfl, rfl, rfl⟩
  rw [if_neg c7] at h
  by_cases c8 : x1 = 6
  · rw [if_pos c8] at h
    refine rs (t := (92, [(0, .ref 0), (1, .int x1)], [])) rfl (by rw [c8]; exact sw_i (pc := 1) (o := 91) ⟨by decide, by simp⟩ (by decide) (by decide)) ?_
    refine rsn 1 (t := (93, [(0, .ref 0), (1, .int x1)], [.ref 0])) rfl ?_
    refine pgI rfl rfl rfl (hSh.k 0 rfl _) ?_
    show RN xs L al (Ev xs L al d) 218 96 [(0, .ref 0), (1, .int x1)] [.int ((mI m 0 21))] (m, S) (some (.int r0)) (m, S)
    cases h
    exact rret rfl ⟨rfl, rfl, _, _, rfl, rfl, rfl, rfl⟩
  rw [if_neg c8] at h
  by_cases c9 : x1 = 7
  · rw [if_pos c9] at h
    refine rs (t := (97, [(0, .ref 0), (1, .int x1)], [])) rfl (by rw [c9]; exact sw_i (pc := 1) (o := 96) ⟨by decide, by simp⟩ (by decide) (by decide)) ?_
    refine rsn 1 (t := (98, [(0, .ref 0), (1, .int x1)], [.ref 0])) rfl ?_
    refine pgI rfl rfl rfl (hSh.k 0 rfl _) ?_
    show RN xs L al (Ev xs L al d) 218 101 [(0, .ref 0), (1, .int x1)] [.int ((mI m 0 22))] (m, S) (some (.int r0)) (m, S)
    cases h
    exact rret rfl ⟨rfl, rfl, _, _, rfl, rfl, rfl, rfl⟩
  rw [if_neg c9] at h
  by_cases c10 : x1 = 8
  · rw [if_pos c10] at h
    refine rs (t := (102, [(0, .ref 0), (1, .int x1)], [])) rfl (by rw [c10]; exact sw_i (pc := 1) (o := 101) ⟨by decide, by simp⟩ (by decide) (by decide)) ?_
    refine rsn 1 (t := (103, [(0, .ref 0), (1, .int x1)], [.ref 0])) rfl ?_
    refine pgI rfl rfl rfl (hSh.k 0 rfl _) ?_
    show RN xs L al (Ev xs L al d) 218 106 [(0, .ref 0), (1, .int x1)] [.int ((mI m 0 1))] (m, S) (some (.int r0)) (m, S)
    cases h
    exact rret rfl ⟨rfl, rfl, _, _, rfl, rfl, rfl, rfl⟩
  rw [if_neg c10] at h
  refine rs (t := (107, [(0, .ref 0), (1, .int x1)], [])) rfl (sw_d (pc := 1) ⟨by decide, by simp⟩ (sw_out (n := 8) (by intro i hi; match i, hi with | 0, _ => exact c2 | 1, _ => exact c3 | 2, _ => exact c4 | 3, _ => exact c5 | 4, _ => exact c6 | 5, _ => exact c7 | 6, _ => exact c8 | 7, _ => exact c9 | 8, _ => exact c10 | i + 9, hi => exact absurd hi (by omega)) (by decide))) ?_
  refine rsn 1 (t := (108, [(0, .ref 0), (1, .int x1)], [.int ((-1))])) rfl ?_
  cases h
  exact rret rfl ⟨rfl, rfl, _, _, rfl, rfl, rfl, rfl⟩
