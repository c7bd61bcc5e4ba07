/-! The reference's methods as functions (printed by wip/whole/gen_fun.py). -/
def f_Mo_isHeir (N : Nat) (x1 : Int32) (m : Mm) : Option (Int32) := b1 (f_Mo_in N x1 0 ((((mI m 0 16)) - 1))) fun r1 => ck (r1 = 0 ∨ r1 = 1) (some r1)
set_option maxRecDepth 20000 in
set_option maxHeartbeats 4000000 in
theorem e_Mo_isHeir {xs : Nat → Int32} {L : Nat} {al : Bool} (N : Nat) {d : Nat} (hd : 2 ≤ d) {S : St} (hSh : ShR S) {x1 : Int32} {m : Mm} {r0 : Int32} (h : f_Mo_isHeir N x1 m = some r0) : Ev xs L al d 172 [.ref 0, .int x1] (m, S) (some (.int r0)) (m, S) := by
  obtain ⟨d, rfl⟩ : ∃ e, d = e + 1 := ⟨d - 1, by omega⟩
  refine ev_of (by decide) (Nat.le_of_ble_eq_true rfl) ?_
  rw [f_Mo_isHeir] at h
  show RN xs L al (Ev xs L al d) 172 0 [(0, .ref 0), (1, .int x1)] [] (m, S) (some (.int r0)) (m, S)
  refine rsn 3 (t := (3, [(0, .ref 0), (1, .int x1)], [.ref 0, .int 0, .int x1])) rfl ?_
  refine pgI rfl rfl rfl (hSh.k 0 rfl _) ?_
  show RN xs L al (Ev xs L al d) 172 6 [(0, .ref 0), (1, .int x1)] [.int ((mI m 0 16)), .int 0, .int x1] (m, S) (some (.int r0)) (m, S)
  refine rsn 2 (t := (8, [(0, .ref 0), (1, .int x1)], [.int ((((mI m 0 16)) - 1)), .int 0, .int x1])) rfl ?_
  obtain ⟨r1, g1, h⟩ := b1_some h
  refine rcS 146 [.int x1, .int 0, .int ((((mI m 0 16)) - 1))] rfl rfl rfl (Nat.le_of_ble_eq_true rfl) rfl (e_Mo_in N (by omega) g1) ?_
  show RN xs L al (Ev xs L al d) 172 11 [(0, .ref 0), (1, .int x1)] [.int r1] (m, S) (some (.int r0)) (m, S)
  obtain ⟨c2, h⟩ := ck_some h
  cases h
  exact rret rfl ⟨rfl, rfl, _, _, rfl, rfl, rfl, nz_of c2⟩
def f_Mo_worthTo_L6 (N : Nat) (x1 : Int64) (x3 : Int32) (x4 : Int32) (m : Mm) (k6 : Int32 → Int32 → Option (Int32)) : Nat → Int32 → Int32 → Option (Int32)
  | 0, _, _ => none
  | n6 + 1, x5, x6 => f_Mo_worthTo_L6 N x1 x3 x4 m k6 n6 x5 x6
def f_Mo_worthTo (N : Nat) (x1 : Int64) (x3 : Int32) (x4 : Int32) (m : Mm) : Option (Int32) := f_Mo_worthTo_L6 N x1 x3 x4 m (fun (z1_5 : Int32) (z1_6 : Int32) => some z1_5) N 0 0
set_option maxRecDepth 20000 in
set_option maxHeartbeats 4000000 in
theorem e_Mo_worthTo {xs : Nat → Int32} {L : Nat} {al : Bool} (N : Nat) {d : Nat} (hd : 2 ≤ d) {S : St} (hSh : ShR S) {x1 : Int64} {x3 : Int32} {x4 : Int32} {m : Mm} {r0 : Int32} (h : f_Mo_worthTo N x1 x3 x4 m = some r0) : Ev xs L al d 175 [.ref 0, .long x1, .int x3, .int x4] (m, S) (some (.int r0)) (m, S) := by
  obtain ⟨d, rfl⟩ : ∃ e, d = e + 1 := ⟨d - 1, by omega⟩
  refine ev_of (by decide) (Nat.le_of_ble_eq_true rfl) ?_
  rw [f_Mo_worthTo] at h
  show RN xs L al (Ev xs L al d) 175 0 [(0, .ref 0), (1, .long x1), (3, .int x3), (4, .int x4)] [] (m, S) (some (.int r0)) (m, S)
  refine rsn 4 (t := (6, [(6, .int 0), (5, .int 0), (0, .ref 0), (1, .long x1), (3, .int x3), (4, .int x4)], [])) rfl ?_
  have ex6 : ∀ (z1_5 : Int32) (z1_6 : Int32), (some z1_5) = some r0 → RN xs L al (Ev xs L al d) 175 43 [(5, .int z1_5)] [] (m, S) (some (.int r0)) (m, S) := by
    intro z1_5 z1_6 h
    try dsimp only at h
    refine rsn 1 (t := (45, [(5, .int z1_5)], [.int z1_5])) rfl ?_
    cases h
    exact rret rfl ⟨rfl, rfl, _, _, rfl, rfl, rfl, rfl⟩
  have lp6 : ∀ (n : Nat) (y2_5 : Int32) (y2_6 : Int32), (f_Mo_worthTo_L6 N x1 x3 x4 m (fun (z1_5 : Int32) (z1_6 : Int32) => some z1_5) n y2_5 y2_6) = some r0 → RN xs L al (Ev xs L al d) 175 6 [(0, .ref 0), (1, .long x1), (3, .int x3), (4, .int x4), (5, .int y2_5), (6, .int y2_6)] [] (m, S) (some (.int r0)) (m, S) := by
    intro n
    induction n with
    | zero => intro y2_5 y2_6 h; exact absurd h (by simp [f_Mo_worthTo_L6])
    | succ n6 ih6 =>
      intro y2_5 y2_6 h
      try dsimp only at h
      rw [f_Mo_worthTo_L6] at h
      try dsimp only at h
      exact rsub [(0, .ref 0), (1, .long x1), (3, .int x3), (4, .int x4), (5, .int y2_5), (6, .int y2_6)] ⟨rfl, ⟨rfl, ⟨rfl, ⟨rfl, ⟨rfl, ⟨rfl, trivial⟩⟩⟩⟩⟩⟩ ⟨rfl, ⟨rfl, ⟨rfl, ⟨rfl, ⟨rfl, ⟨rfl, trivial⟩⟩⟩⟩⟩⟩ (ih6 y2_5 y2_6 h)
  exact rsub [(0, .ref 0), (1, .long x1), (3, .int x3), (4, .int x4), (5, .int 0), (6, .int 0)] ⟨rfl, ⟨rfl, ⟨rfl, ⟨rfl, ⟨rfl, ⟨rfl, trivial⟩⟩⟩⟩⟩⟩ ⟨rfl, ⟨rfl, ⟨rfl, ⟨rfl, ⟨rfl, ⟨rfl, trivial⟩⟩⟩⟩⟩⟩ (lp6 N 0 0 h)
def f_Mo_heir (N : Nat) (x1 : Int32) (x2 : Int32) (m : Mm) : Option (Int32) := b1 (f_Mo_isHeir N x1 m) fun r1 => (if r1 = 0 then some ((-1)) else (if x2 = 0 then b1 (f_Mo_hasCome N ((mJ m 0 23)) x1) fun r12 => (if r12 = 0 then some 0 else some 1) else b1 (f_Mo_in N x2 1 3) fun r4 => (if r4 = 0 then b1 (f_Mo_in N x2 4 6) fun r6 => (if r6 = 0 then (if x2 = 7 then b1 (f_Mo_worthTo N ((mJ m 0 23)) x1 x1 m) fun r9 => some r9 else some ((-1))) else b1 (f_Mo_things N ((mJ m 0 23)) x1 ((x2 - 4))) fun r10 => some r10) else ck (ix ((((((3 * x1)) + x2)) - 1)) 9) (some ((mX m 7 (((((((3 * x1)) + x2)) - 1)).toNatClampNeg)))))))
set_option maxRecDepth 20000 in
set_option maxHeartbeats 4000000 in
theorem e_Mo_heir {xs : Nat → Int32} {L : Nat} {al : Bool} (N : Nat) {d : Nat} (hd : 3 ≤ d) {S : St} (hSh : ShR S) {x1 : Int32} {x2 : Int32} {m : Mm} {r0 : Int32} (h : f_Mo_heir N x1 x2 m = some r0) : Ev xs L al d 171 [.ref 0, .int x1, .int x2] (m, S) (some (.int r0)) (m, S) := by
  obtain ⟨d, rfl⟩ : ∃ e, d = e + 1 := ⟨d - 1, by omega⟩
  refine ev_of (by decide) (Nat.le_of_ble_eq_true rfl) ?_
  rw [f_Mo_heir] at h
  show RN xs L al (Ev xs L al d) 171 0 [(0, .ref 0), (1, .int x1), (2, .int x2)] [] (m, S) (some (.int r0)) (m, S)
  refine rsn 2 (t := (2, [(0, .ref 0), (1, .int x1), (2, .int x2)], [.int x1, .ref 0])) rfl ?_
  obtain ⟨r1, g1, h⟩ := b1_some h
  refine rcV 172 0 [.int x1] rfl rfl rfl (hSh.k 0 rfl _) (Nat.le_of_ble_eq_true rfl) rfl (e_Mo_isHeir N (by omega) hSh g1) ?_
  show RN xs L al (Ev xs L al d) 171 5 [(0, .ref 0), (1, .int x1), (2, .int x2)] [.int r1] (m, S) (some (.int r0)) (m, S)
  by_cases c2 : r1 = 0
  · rw [if_pos c2] at h
    refine rjf (a := (10, [(0, .ref 0), (1, .int x1), (2, .int x2)], [])) (b := (8, [(0, .ref 0), (1, .int x1), (2, .int x2)], [])) rfl rfl (fun q => q c2) ?_
    refine rsn 1 (t := (9, [(0, .ref 0), (1, .int x1), (2, .int x2)], [.int ((-1))])) rfl ?_
    cases h
    exact rret rfl ⟨rfl, rfl, _, _, rfl, rfl, rfl, rfl⟩
  · rw [if_neg c2] at h
    refine rjt (a := (10, [(0, .ref 0), (1, .int x1), (2, .int x2)], [])) (b := (8, [(0, .ref 0), (1, .int x1), (2, .int x2)], [])) rfl rfl c2 ?_
    refine rsn 1 (t := (11, [(0, .ref 0), (1, .int x1), (2, .int x2)], [.int x2])) rfl ?_
    by_cases c3 : x2 = 0
    · rw [if_pos c3] at h
      refine rjf (a := (31, [(0, .ref 0), (1, .int x1), (2, .int x2)], [])) (b := (14, [(0, .ref 0), (1, .int x1), (2, .int x2)], [])) rfl rfl (fun q => q c3) ?_
      refine rsn 1 (t := (15, [(0, .ref 0), (1, .int x1), (2, .int x2)], [.ref 0])) rfl ?_
      refine pgJ rfl rfl rfl (hSh.k 0 rfl _) ?_
      show RN xs L al (Ev xs L al d) 171 18 [(0, .ref 0), (1, .int x1), (2, .int x2)] [.long ((mJ m 0 23))] (m, S) (some (.int r0)) (m, S)
      refine rsn 1 (t := (19, [(0, .ref 0), (1, .int x1), (2, .int x2)], [.int x1, .long ((mJ m 0 23))])) rfl ?_
      obtain ⟨r12, g12, h⟩ := b1_some h
      refine rcS 173 [.long ((mJ m 0 23)), .int x1] rfl rfl rfl (Nat.le_of_ble_eq_true rfl) rfl (e_Mo_hasCome N (by omega) g12) ?_
      show RN xs L al (Ev xs L al d) 171 22 [(0, .ref 0), (1, .int x1), (2, .int x2)] [.int r12] (m, S) (some (.int r0)) (m, S)
      by_cases c13 : r12 = 0
      · rw [if_pos c13] at h
        refine rjt (a := (29, [(0, .ref 0), (1, .int x1), (2, .int x2)], [])) (b := (25, [(0, .ref 0), (1, .int x1), (2, .int x2)], [])) rfl rfl c13 ?_
        refine rsn 1 (t := (30, [(0, .ref 0), (1, .int x1), (2, .int x2)], [.int 0])) rfl ?_
        cases h
        exact rret rfl ⟨rfl, rfl, _, _, rfl, rfl, rfl, rfl⟩
      · rw [if_neg c13] at h
        refine rjf (a := (29, [(0, .ref 0), (1, .int x1), (2, .int x2)], [])) (b := (25, [(0, .ref 0), (1, .int x1), (2, .int x2)], [])) rfl rfl c13 ?_
        refine rsn 2 (t := (30, [(0, .ref 0), (1, .int x1), (2, .int x2)], [.int 1])) rfl ?_
        cases h
        exact rret rfl ⟨rfl, rfl, _, _, rfl, rfl, rfl, rfl⟩
    · rw [if_neg c3] at h
      refine rjt (a := (31, [(0, .ref 0), (1, .int x1), (2, .int x2)], [])) (b := (14, [(0, .ref 0), (1, .int x1), (2, .int x2)], [])) rfl rfl c3 ?_
      refine rsn 3 (t := (34, [(0, .ref 0), (1, .int x1), (2, .int x2)], [.int 3, .int 1, .int x2])) rfl ?_
      obtain ⟨r4, g4, h⟩ := b1_some h
      refine rcS 146 [.int x2, .int 1, .int 3] rfl rfl rfl (Nat.le_of_ble_eq_true rfl) rfl (e_Mo_in N (by omega) g4) ?_
      show RN xs L al (Ev xs L al d) 171 37 [(0, .ref 0), (1, .int x1), (2, .int x2)] [.int r4] (m, S) (some (.int r0)) (m, S)
      by_cases c5 : r4 = 0
      · rw [if_pos c5] at h
        refine rjt (a := (53, [(0, .ref 0), (1, .int x1), (2, .int x2)], [])) (b := (40, [(0, .ref 0), (1, .int x1), (2, .int x2)], [])) rfl rfl c5 ?_
        refine rsn 3 (t := (57, [(0, .ref 0), (1, .int x1), (2, .int x2)], [.int 6, .int 4, .int x2])) rfl ?_
        obtain ⟨r6, g6, h⟩ := b1_some h
        refine rcS 146 [.int x2, .int 4, .int 6] rfl rfl rfl (Nat.le_of_ble_eq_true rfl) rfl (e_Mo_in N (by omega) g6) ?_
        show RN xs L al (Ev xs L al d) 171 60 [(0, .ref 0), (1, .int x1), (2, .int x2)] [.int r6] (m, S) (some (.int r0)) (m, S)
        by_cases c7 : r6 = 0
        · rw [if_pos c7] at h
          refine rjt (a := (77, [(0, .ref 0), (1, .int x1), (2, .int x2)], [])) (b := (63, [(0, .ref 0), (1, .int x1), (2, .int x2)], [])) rfl rfl c7 ?_
          refine rsn 2 (t := (80, [(0, .ref 0), (1, .int x1), (2, .int x2)], [.int 7, .int x2])) rfl ?_
          by_cases c8 : x2 = 7
          · rw [if_pos c8] at h
            refine rjf (a := (96, [(0, .ref 0), (1, .int x1), (2, .int x2)], [])) (b := (83, [(0, .ref 0), (1, .int x1), (2, .int x2)], [])) rfl rfl (fun q => q c8) ?_
            refine rsn 2 (t := (85, [(0, .ref 0), (1, .int x1), (2, .int x2)], [.ref 0, .ref 0])) rfl ?_
            refine pgJ rfl rfl rfl (hSh.k 0 rfl _) ?_
            show RN xs L al (Ev xs L al d) 171 88 [(0, .ref 0), (1, .int x1), (2, .int x2)] [.long ((mJ m 0 23)), .ref 0] (m, S) (some (.int r0)) (m, S)
            refine rsn 2 (t := (90, [(0, .ref 0), (1, .int x1), (2, .int x2)], [.int x1, .int x1, .long ((mJ m 0 23)), .ref 0])) rfl ?_
            obtain ⟨r9, g9, h⟩ := b1_some h
            refine rcV 175 0 [.long ((mJ m 0 23)), .int x1, .int x1] rfl rfl rfl (hSh.k 0 rfl _) (Nat.le_of_ble_eq_true rfl) rfl (e_Mo_worthTo N (by omega) hSh g9) ?_
            show RN xs L al (Ev xs L al d) 171 93 [(0, .ref 0), (1, .int x1), (2, .int x2)] [.int r9] (m, S) (some (.int r0)) (m, S)
            refine rsn 1 (t := (97, [(0, .ref 0), (1, .int x1), (2, .int x2)], [.int r9])) rfl ?_
            cases h
            exact rret rfl ⟨rfl, rfl, _, _, rfl, rfl, rfl, rfl⟩
          · rw [if_neg c8] at h
            refine rjt (a := (96, [(0, .ref 0), (1, .int x1), (2, .int x2)], [])) (b := (83, [(0, .ref 0), (1, .int x1), (2, .int x2)], [])) rfl rfl c8 ?_
            refine rsn 1 (t := (97, [(0, .ref 0), (1, .int x1), (2, .int x2)], [.int ((-1))])) rfl ?_
            cases h
            exact rret rfl ⟨rfl, rfl, _, _, rfl, rfl, rfl, rfl⟩
        · rw [if_neg c7] at h
          refine rjf (a := (77, [(0, .ref 0), (1, .int x1), (2, .int x2)], [])) (b := (63, [(0, .ref 0), (1, .int x1), (2, .int x2)], [])) rfl rfl c7 ?_
          refine rsn 1 (t := (64, [(0, .ref 0), (1, .int x1), (2, .int x2)], [.ref 0])) rfl ?_
          refine pgJ rfl rfl rfl (hSh.k 0 rfl _) ?_
          show RN xs L al (Ev xs L al d) 171 67 [(0, .ref 0), (1, .int x1), (2, .int x2)] [.long ((mJ m 0 23))] (m, S) (some (.int r0)) (m, S)
          refine rsn 4 (t := (71, [(0, .ref 0), (1, .int x1), (2, .int x2)], [.int ((x2 - 4)), .int x1, .long ((mJ m 0 23))])) rfl ?_
          obtain ⟨r10, g10, h⟩ := b1_some h
          refine rcS 174 [.long ((mJ m 0 23)), .int x1, .int ((x2 - 4))] rfl rfl rfl (Nat.le_of_ble_eq_true rfl) rfl (e_Mo_things N (by omega) g10) ?_
          show RN xs L al (Ev xs L al d) 171 74 [(0, .ref 0), (1, .int x1), (2, .int x2)] [.int r10] (m, S) (some (.int r0)) (m, S)
          refine rsn 1 (t := (97, [(0, .ref 0), (1, .int x1), (2, .int x2)], [.int r10])) rfl ?_
          cases h
          exact rret rfl ⟨rfl, rfl, _, _, rfl, rfl, rfl, rfl⟩
      · rw [if_neg c5] at h
        refine rjf (a := (53, [(0, .ref 0), (1, .int x1), (2, .int x2)], [])) (b := (40, [(0, .ref 0), (1, .int x1), (2, .int x2)], [])) rfl rfl c5 ?_
        refine rsn 1 (t := (41, [(0, .ref 0), (1, .int x1), (2, .int x2)], [.ref 0])) rfl ?_
        refine rgR rfl rfl rfl (hSh.k 0 rfl _) (hSh.r 6 rfl _) ?_
        refine rsn 7 (t := (51, [(0, .ref 0), (1, .int x1), (2, .int x2)], [.int ((((((3 * x1)) + x2)) - 1)), .ref 7])) rfl ?_
        obtain ⟨c11, h⟩ := ck_some h
        refine pxI rfl (hSh.k 7 rfl _) (hSh.l 6 rfl _) c11 ?_
        show RN xs L al (Ev xs L al d) 171 52 [(0, .ref 0), (1, .int x1), (2, .int x2)] [.int ((mX m 7 (((((((3 * x1)) + x2)) - 1)).toNatClampNeg)))] (m, S) (some (.int r0)) (m, S)
        cases h
        exact rret rfl ⟨rfl, rfl, _, _, rfl, rfl, rfl, rfl⟩
def f_Mo_altOf (N : Nat) (x1 : Int32) (x2 : Int32) (x3 : Int32) (m : Mm) : Option (Int32) := ck (ix ((((3 * ((((3 * x1)) + x2)))) + x3)) 54) (some ((mX m 9 (((((3 * ((((3 * x1)) + x2)))) + x3)).toNatClampNeg))))
set_option maxRecDepth 20000 in
set_option maxHeartbeats 4000000 in
theorem e_Mo_altOf {xs : Nat → Int32} {L : Nat} {al : Bool} (N : Nat) {d : Nat} (hd : 1 ≤ d) {S : St} (hSh : ShR S) {x1 : Int32} {x2 : Int32} {x3 : Int32} {m : Mm} {r0 : Int32} (h : f_Mo_altOf N x1 x2 x3 m = some r0) : Ev xs L al d 177 [.ref 0, .int x1, .int x2, .int x3] (m, S) (some (.int r0)) (m, S) := by
  obtain ⟨d, rfl⟩ : ∃ e, d = e + 1 := ⟨d - 1, by omega⟩
  refine ev_of (by decide) (Nat.le_of_ble_eq_true rfl) ?_
  rw [f_Mo_altOf] at h
  show RN xs L al (Ev xs L al d) 177 0 [(0, .ref 0), (1, .int x1), (2, .int x2), (3, .int x3)] [] (m, S) (some (.int r0)) (m, S)
  refine rsn 1 (t := (1, [(0, .ref 0), (1, .int x1), (2, .int x2), (3, .int x3)], [.ref 0])) rfl ?_
  refine rgR rfl rfl rfl (hSh.k 0 rfl _) (hSh.r 8 rfl _) ?_
  refine rsn 9 (t := (13, [(0, .ref 0), (1, .int x1), (2, .int x2), (3, .int x3)], [.int ((((3 * ((((3 * x1)) + x2)))) + x3)), .ref 9])) rfl ?_
  obtain ⟨c1, h⟩ := ck_some h
  refine pxI rfl (hSh.k 9 rfl _) (hSh.l 8 rfl _) c1 ?_
  show RN xs L al (Ev xs L al d) 177 14 [(0, .ref 0), (1, .int x1), (2, .int x2), (3, .int x3)] [.int ((mX m 9 (((((3 * ((((3 * x1)) + x2)))) + x3)).toNatClampNeg)))] (m, S) (some (.int r0)) (m, S)
  cases h
  exact rret rfl ⟨rfl, rfl, _, _, rfl, rfl, rfl, rfl⟩
def f_Mo_alt (N : Nat) (x1 : Int32) (x2 : Int32) (x3 : Int32) (m : Mm) : Option (Int32) := (if ((mI m 0 15)) = 0 then some ((-1)) else b1 (f_Mo_in N x1 0 ((((mI m 0 18)) - 1))) fun r2 => (if r2 = 0 then some ((-1)) else ck (ix x1 6) (b1 (f_Mo_in N x2 0 ((((mX m 8 x1.toNatClampNeg)) - 1))) fun r5 => (if r5 = 0 then some ((-1)) else b1 (f_Mo_in N x3 0 2) fun r7 => (if r7 = 0 then some ((-1)) else b1 (f_Mo_altOf N x1 x2 x3 m) fun r9 => some r9)))))
set_option maxRecDepth 20000 in
set_option maxHeartbeats 4000000 in
theorem e_Mo_alt {xs : Nat → Int32} {L : Nat} {al : Bool} (N : Nat) {d : Nat} (hd : 2 ≤ d) {S : St} (hSh : ShR S) {x1 : Int32} {x2 : Int32} {x3 : Int32} {m : Mm} {r0 : Int32} (h : f_Mo_alt N x1 x2 x3 m = some r0) : Ev xs L al d 176 [.ref 0, .int x1, .int x2, .int x3] (m, S) (some (.int r0)) (m, S) := by
  obtain ⟨d, rfl⟩ : ∃ e, d = e + 1 := ⟨d - 1, by omega⟩
  refine ev_of (by decide) (Nat.le_of_ble_eq_true rfl) ?_
  rw [f_Mo_alt] at h
  show RN xs L al (Ev xs L al d) 176 0 [(0, .ref 0), (1, .int x1), (2, .int x2), (3, .int x3)] [] (m, S) (some (.int r0)) (m, S)
  refine rsn 1 (t := (1, [(0, .ref 0), (1, .int x1), (2, .int x2), (3, .int x3)], [.ref 0])) rfl ?_
  refine pgI rfl rfl rfl (hSh.k 0 rfl _) ?_
  show RN xs L al (Ev xs L al d) 176 4 [(0, .ref 0), (1, .int x1), (2, .int x2), (3, .int x3)] [.int ((mI m 0 15))] (m, S) (some (.int r0)) (m, S)
  by_cases c1 : ((mI m 0 15)) = 0
  · rw [if_pos c1] at h
    refine rjt (a := (56, [(0, .ref 0), (1, .int x1), (2, .int x2), (3, .int x3)], [])) (b := (7, [(0, .ref 0), (1, .int x1), (2, .int x2), (3, .int x3)], [])) rfl rfl c1 ?_
    refine rsn 1 (t := (57, [(0, .ref 0), (1, .int x1), (2, .int x2), (3, .int x3)], [.int ((-1))])) rfl ?_
    cases h
    exact rret rfl ⟨rfl, rfl, _, _, rfl, rfl, rfl, rfl⟩
  · rw [if_neg c1] at h
    refine rjf (a := (56, [(0, .ref 0), (1, .int x1), (2, .int x2), (3, .int x3)], [])) (b := (7, [(0, .ref 0), (1, .int x1), (2, .int x2), (3, .int x3)], [])) rfl rfl c1 ?_
    refine rsn 3 (t := (10, [(0, .ref 0), (1, .int x1), (2, .int x2), (3, .int x3)], [.ref 0, .int 0, .int x1])) rfl ?_
    refine pgI rfl rfl rfl (hSh.k 0 rfl _) ?_
    show RN xs L al (Ev xs L al d) 176 13 [(0, .ref 0), (1, .int x1), (2, .int x2), (3, .int x3)] [.int ((mI m 0 18)), .int 0, .int x1] (m, S) (some (.int r0)) (m, S)
    refine rsn 2 (t := (15, [(0, .ref 0), (1, .int x1), (2, .int x2), (3, .int x3)], [.int ((((mI m 0 18)) - 1)), .int 0, .int x1])) rfl ?_
    obtain ⟨r2, g2, h⟩ := b1_some h
    refine rcS 146 [.int x1, .int 0, .int ((((mI m 0 18)) - 1))] rfl rfl rfl (Nat.le_of_ble_eq_true rfl) rfl (e_Mo_in N (by omega) g2) ?_
    show RN xs L al (Ev xs L al d) 176 18 [(0, .ref 0), (1, .int x1), (2, .int x2), (3, .int x3)] [.int r2] (m, S) (some (.int r0)) (m, S)
    by_cases c3 : r2 = 0
    · rw [if_pos c3] at h
      refine rjt (a := (56, [(0, .ref 0), (1, .int x1), (2, .int x2), (3, .int x3)], [])) (b := (21, [(0, .ref 0), (1, .int x1), (2, .int x2), (3, .int x3)], [])) rfl rfl c3 ?_
      refine rsn 1 (t := (57, [(0, .ref 0), (1, .int x1), (2, .int x2), (3, .int x3)], [.int ((-1))])) rfl ?_
      cases h
      exact rret rfl ⟨rfl, rfl, _, _, rfl, rfl, rfl, rfl⟩
    · rw [if_neg c3] at h
      refine rjf (a := (56, [(0, .ref 0), (1, .int x1), (2, .int x2), (3, .int x3)], [])) (b := (21, [(0, .ref 0), (1, .int x1), (2, .int x2), (3, .int x3)], [])) rfl rfl c3 ?_
      refine rsn 3 (t := (24, [(0, .ref 0), (1, .int x1), (2, .int x2), (3, .int x3)], [.ref 0, .int 0, .int x2])) rfl ?_
      refine rgR rfl rfl rfl (hSh.k 0 rfl _) (hSh.r 7 rfl _) ?_
      refine rsn 1 (t := (28, [(0, .ref 0), (1, .int x1), (2, .int x2), (3, .int x3)], [.int x1, .ref 8, .int 0, .int x2])) rfl ?_
      obtain ⟨c4, h⟩ := ck_some h
      refine pxI rfl (hSh.k 8 rfl _) (hSh.l 7 rfl _) c4 ?_
      show RN xs L al (Ev xs L al d) 176 29 [(0, .ref 0), (1, .int x1), (2, .int x2), (3, .int x3)] [.int ((mX m 8 x1.toNatClampNeg)), .int 0, .int x2] (m, S) (some (.int r0)) (m, S)
      refine rsn 2 (t := (31, [(0, .ref 0), (1, .int x1), (2, .int x2), (3, .int x3)], [.int ((((mX m 8 x1.toNatClampNeg)) - 1)), .int 0, .int x2])) rfl ?_
      obtain ⟨r5, g5, h⟩ := b1_some h
      refine rcS 146 [.int x2, .int 0, .int ((((mX m 8 x1.toNatClampNeg)) - 1))] rfl rfl rfl (Nat.le_of_ble_eq_true rfl) rfl (e_Mo_in N (by omega) g5) ?_
      show RN xs L al (Ev xs L al d) 176 34 [(0, .ref 0), (1, .int x1), (2, .int x2), (3, .int x3)] [.int r5] (m, S) (some (.int r0)) (m, S)
      by_cases c6 : r5 = 0
      · rw [if_pos c6] at h
        refine rjt (a := (56, [(0, .ref 0), (1, .int x1), (2, .int x2), (3, .int x3)], [])) (b := (37, [(0, .ref 0), (1, .int x1), (2, .int x2), (3, .int x3)], [])) rfl rfl c6 ?_
        refine rsn 1 (t := (57, [(0, .ref 0), (1, .int x1), (2, .int x2), (3, .int x3)], [.int ((-1))])) rfl ?_
        cases h
        exact rret rfl ⟨rfl, rfl, _, _, rfl, rfl, rfl, rfl⟩
      · rw [if_neg c6] at h
        refine rjf (a := (56, [(0, .ref 0), (1, .int x1), (2, .int x2), (3, .int x3)], [])) (b := (37, [(0, .ref 0), (1, .int x1), (2, .int x2), (3, .int x3)], [])) rfl rfl c6 ?_
        refine rsn 3 (t := (40, [(0, .ref 0), (1, .int x1), (2, .int x2), (3, .int x3)], [.int 2, .int 0, .int x3])) rfl ?_
        obtain ⟨r7, g7, h⟩ := b1_some h
        refine rcS 146 [.int x3, .int 0, .int 2] rfl rfl rfl (Nat.le_of_ble_eq_true rfl) rfl (e_Mo_in N (by omega) g7) ?_
        show RN xs L al (Ev xs L al d) 176 43 [(0, .ref 0), (1, .int x1), (2, .int x2), (3, .int x3)] [.int r7] (m, S) (some (.int r0)) (m, S)
        by_cases c8 : r7 = 0
        · rw [if_pos c8] at h
          refine rjt (a := (56, [(0, .ref 0), (1, .int x1), (2, .int x2), (3, .int x3)], [])) (b := (46, [(0, .ref 0), (1, .int x1), (2, .int x2), (3, .int x3)], [])) rfl rfl c8 ?_
          refine rsn 1 (t := (57, [(0, .ref 0), (1, .int x1), (2, .int x2), (3, .int x3)], [.int ((-1))])) rfl ?_
          cases h
          exact rret rfl ⟨rfl, rfl, _, _, rfl, rfl, rfl, rfl⟩
        · rw [if_neg c8] at h
          refine rjf (a := (56, [(0, .ref 0), (1, .int x1), (2, .int x2), (3, .int x3)], [])) (b := (46, [(0, .ref 0), (1, .int x1), (2, .int x2), (3, .int x3)], [])) rfl rfl c8 ?_
          refine rsn 4 (t := (50, [(0, .ref 0), (1, .int x1), (2, .int x2), (3, .int x3)], [.int x3, .int x2, .int x1, .ref 0])) rfl ?_
          obtain ⟨r9, g9, h⟩ := b1_some h
          refine rcV 177 0 [.int x1, .int x2, .int x3] rfl rfl rfl (hSh.k 0 rfl _) (Nat.le_of_ble_eq_true rfl) rfl (e_Mo_altOf N (by omega) hSh g9) ?_
          show RN xs L al (Ev xs L al d) 176 53 [(0, .ref 0), (1, .int x1), (2, .int x2), (3, .int x3)] [.int r9] (m, S) (some (.int r0)) (m, S)
          refine rsn 1 (t := (57, [(0, .ref 0), (1, .int x1), (2, .int x2), (3, .int x3)], [.int r9])) rfl ?_
          cases h
          exact rret rfl ⟨rfl, rfl, _, _, rfl, rfl, rfl, rfl⟩
def f_Mo_come (N : Nat) (x1 : Int32) (m : Mm) : Option (Int32 × Mm) := (if ((mI m 0 15)) = 0 then some ((-1), m) else (if ((mI m 0 25)) = ((-1)) then (if ((mI m 0 24)) = ((mI m 0 18)) then some ((-1), m) else ck (ix ((mI m 0 24)) 6) (b1 (f_Mo_in N x1 0 ((((mX m 8 (((mI m 0 24)).toNatClampNeg))) - 1))) fun r5 => (if r5 = 0 then some ((-1), m) else b1 (f_Mo_altOf N ((mI m 0 24)) x1 1 m) fun r7 => (jn (fun (m8 : Mm) => (jn (fun (m9 : Mm) => some ((((mI m9 0 24)) + 1), (vI m9 0 24 ((((mI m9 0 24)) + 1))))) (fun j105 => if r7 = 1 then b1 (f_Mo_altOf N ((mI m8 0 24)) x1 2 m8) fun r11 => j105 ((vJ m8 0 23 ((((mJ m8 0 23)) ||| ((lsl 1 ((36 + r11)))))))) else j105 m8))) (fun j76 => if r7 = 0 then b1 (f_Mo_altOf N ((mI m 0 24)) x1 2 m) fun r13 => j76 ((vI m 0 25 r13)) else j76 m))))) else some ((-1), m)))
set_option maxRecDepth 20000 in
set_option maxHeartbeats 4000000 in
theorem e_Mo_come {xs : Nat → Int32} {L : Nat} {al : Bool} (N : Nat) {d : Nat} (hd : 2 ≤ d) {S : St} (hSh : ShR S) {x1 : Int32} {m : Mm} {r0 : Int32} {mf : Mm} (h : f_Mo_come N x1 m = some (r0, mf)) : Ev xs L al d 178 [.ref 0, .int x1] (m, S) (some (.int r0)) (mf, S) := by
  obtain ⟨d, rfl⟩ : ∃ e, d = e + 1 := ⟨d - 1, by omega⟩
  refine ev_of (by decide) (Nat.le_of_ble_eq_true rfl) ?_
  rw [f_Mo_come] at h
  show RN xs L al (Ev xs L al d) 178 0 [(0, .ref 0), (1, .int x1)] [] (m, S) (some (.int r0)) (mf, S)
  refine rsn 1 (t := (1, [(0, .ref 0), (1, .int x1)], [.ref 0])) rfl ?_
  refine pgI rfl rfl rfl (hSh.k 0 rfl _) ?_
  show RN xs L al (Ev xs L al d) 178 4 [(0, .ref 0), (1, .int x1)] [.int ((mI m 0 15))] (m, S) (some (.int r0)) (mf, S)
  by_cases c1 : ((mI m 0 15)) = 0
  · rw [if_pos c1] at h
    refine rjt (a := (45, [(0, .ref 0), (1, .int x1)], [])) (b := (7, [(0, .ref 0), (1, .int x1)], [])) rfl rfl c1 ?_
    refine rsn 1 (t := (46, [(0, .ref 0), (1, .int x1)], [.int ((-1))])) rfl ?_
    cases h
    exact rret rfl ⟨rfl, rfl, _, _, rfl, rfl, rfl, rfl⟩
  · rw [if_neg c1] at h
    refine rjf (a := (45, [(0, .ref 0), (1, .int x1)], [])) (b := (7, [(0, .ref 0), (1, .int x1)], [])) rfl rfl c1 ?_
    refine rsn 1 (t := (8, [(0, .ref 0), (1, .int x1)], [.ref 0])) rfl ?_
    refine pgI rfl rfl rfl (hSh.k 0 rfl _) ?_
    show RN xs L al (Ev xs L al d) 178 11 [(0, .ref 0), (1, .int x1)] [.int ((mI m 0 25))] (m, S) (some (.int r0)) (mf, S)
    refine rsn 1 (t := (12, [(0, .ref 0), (1, .int x1)], [.int ((-1)), .int ((mI m 0 25))])) rfl ?_
    by_cases c2 : ((mI m 0 25)) = ((-1))
    · rw [if_pos c2] at h
      refine rjf (a := (45, [(0, .ref 0), (1, .int x1)], [])) (b := (15, [(0, .ref 0), (1, .int x1)], [])) rfl rfl (fun q => q c2) ?_
      refine rsn 1 (t := (16, [(0, .ref 0), (1, .int x1)], [.ref 0])) rfl ?_
      refine pgI rfl rfl rfl (hSh.k 0 rfl _) ?_
      show RN xs L al (Ev xs L al d) 178 19 [(0, .ref 0), (1, .int x1)] [.int ((mI m 0 24))] (m, S) (some (.int r0)) (mf, S)
      refine rsn 1 (t := (20, [(0, .ref 0), (1, .int x1)], [.ref 0, .int ((mI m 0 24))])) rfl ?_
      refine pgI rfl rfl rfl (hSh.k 0 rfl _) ?_
      show RN xs L al (Ev xs L al d) 178 23 [(0, .ref 0), (1, .int x1)] [.int ((mI m 0 18)), .int ((mI m 0 24))] (m, S) (some (.int r0)) (mf, S)
      by_cases c3 : ((mI m 0 24)) = ((mI m 0 18))
      · rw [if_pos c3] at h
        refine rjt (a := (45, [(0, .ref 0), (1, .int x1)], [])) (b := (26, [(0, .ref 0), (1, .int x1)], [])) rfl rfl c3 ?_
        refine rsn 1 (t := (46, [(0, .ref 0), (1, .int x1)], [.int ((-1))])) rfl ?_
        cases h
        exact rret rfl ⟨rfl, rfl, _, _, rfl, rfl, rfl, rfl⟩
      · rw [if_neg c3] at h
        refine rjf (a := (45, [(0, .ref 0), (1, .int x1)], [])) (b := (26, [(0, .ref 0), (1, .int x1)], [])) rfl rfl c3 ?_
        refine rsn 3 (t := (29, [(0, .ref 0), (1, .int x1)], [.ref 0, .int 0, .int x1])) rfl ?_
        refine rgR rfl rfl rfl (hSh.k 0 rfl _) (hSh.r 7 rfl _) ?_
        refine rsn 1 (t := (33, [(0, .ref 0), (1, .int x1)], [.ref 0, .ref 8, .int 0, .int x1])) rfl ?_
        refine pgI rfl rfl rfl (hSh.k 0 rfl _) ?_
        show RN xs L al (Ev xs L al d) 178 36 [(0, .ref 0), (1, .int x1)] [.int ((mI m 0 24)), .ref 8, .int 0, .int x1] (m, S) (some (.int r0)) (mf, S)
        obtain ⟨c4, h⟩ := ck_some h
        refine pxI rfl (hSh.k 8 rfl _) (hSh.l 7 rfl _) c4 ?_
        show RN xs L al (Ev xs L al d) 178 37 [(0, .ref 0), (1, .int x1)] [.int ((mX m 8 (((mI m 0 24)).toNatClampNeg))), .int 0, .int x1] (m, S) (some (.int r0)) (mf, S)
        refine rsn 2 (t := (39, [(0, .ref 0), (1, .int x1)], [.int ((((mX m 8 (((mI m 0 24)).toNatClampNeg))) - 1)), .int 0, .int x1])) rfl ?_
        obtain ⟨r5, g5, h⟩ := b1_some h
        refine rcS 146 [.int x1, .int 0, .int ((((mX m 8 (((mI m 0 24)).toNatClampNeg))) - 1))] rfl rfl rfl (Nat.le_of_ble_eq_true rfl) rfl (e_Mo_in N (by omega) g5) ?_
        show RN xs L al (Ev xs L al d) 178 42 [(0, .ref 0), (1, .int x1)] [.int r5] (m, S) (some (.int r0)) (mf, S)
        by_cases c6 : r5 = 0
        · rw [if_pos c6] at h
          refine rjf (a := (47, [(0, .ref 0), (1, .int x1)], [])) (b := (45, [(0, .ref 0), (1, .int x1)], [])) rfl rfl (fun q => q c6) ?_
          refine rsn 1 (t := (46, [(0, .ref 0), (1, .int x1)], [.int ((-1))])) rfl ?_
          cases h
          exact rret rfl ⟨rfl, rfl, _, _, rfl, rfl, rfl, rfl⟩
        · rw [if_neg c6] at h
          refine rjt (a := (47, [(0, .ref 0), (1, .int x1)], [])) (b := (45, [(0, .ref 0), (1, .int x1)], [])) rfl rfl c6 ?_
          refine rsn 2 (t := (49, [(0, .ref 0), (1, .int x1)], [.ref 0, .ref 0])) rfl ?_
          refine pgI rfl rfl rfl (hSh.k 0 rfl _) ?_
          show RN xs L al (Ev xs L al d) 178 52 [(0, .ref 0), (1, .int x1)] [.int ((mI m 0 24)), .ref 0] (m, S) (some (.int r0)) (mf, S)
          refine rsn 2 (t := (54, [(0, .ref 0), (1, .int x1)], [.int 1, .int x1, .int ((mI m 0 24)), .ref 0])) rfl ?_
          obtain ⟨r7, g7, h⟩ := b1_some h
          refine rcV 177 0 [.int ((mI m 0 24)), .int x1, .int 1] rfl rfl rfl (hSh.k 0 rfl _) (Nat.le_of_ble_eq_true rfl) rfl (e_Mo_altOf N (by omega) hSh g7) ?_
          show RN xs L al (Ev xs L al d) 178 57 [(0, .ref 0), (1, .int x1)] [.int r7] (m, S) (some (.int r0)) (mf, S)
          refine rsn 2 (t := (59, [(2, .int r7), (0, .ref 0), (1, .int x1)], [.int r7])) rfl ?_
          have jp76 : ∀ (m8 : Mm), ((jn (fun (m9 : Mm) => some ((((mI m9 0 24)) + 1), (vI m9 0 24 ((((mI m9 0 24)) + 1))))) (fun j105 => if r7 = 1 then b1 (f_Mo_altOf N ((mI m8 0 24)) x1 2 m8) fun r11 => j105 ((vJ m8 0 23 ((((mJ m8 0 23)) ||| ((lsl 1 ((36 + r11)))))))) else j105 m8))) = some (r0, mf) → RN xs L al (Ev xs L al d) 178 76 [(0, .ref 0), (1, .int x1), (2, .int r7)] [] (m8, S) (some (.int r0)) (mf, S) := by
            intro m8 h
            try dsimp only at h
            refine rsn 2 (t := (78, [(0, .ref 0), (1, .int x1), (2, .int r7)], [.int 1, .int r7])) rfl ?_
            have jp105 : ∀ (m9 : Mm), (some ((((mI m9 0 24)) + 1), (vI m9 0 24 ((((mI m9 0 24)) + 1))))) = some (r0, mf) → RN xs L al (Ev xs L al d) 178 105 [(0, .ref 0)] [] (m9, S) (some (.int r0)) (mf, S) := by
              intro m9 h
              try dsimp only at h
              refine rsn 2 (t := (107, [(0, .ref 0)], [.ref 0, .ref 0])) rfl ?_
              refine pgI rfl rfl rfl (hSh.k 0 rfl _) ?_
              show RN xs L al (Ev xs L al d) 178 110 [(0, .ref 0)] [.int ((mI m9 0 24)), .ref 0] (m9, S) (some (.int r0)) (mf, S)
              refine rsn 2 (t := (112, [(0, .ref 0)], [.int ((((mI m9 0 24)) + 1)), .ref 0])) rfl ?_
              refine ppI rfl rfl rfl rfl (hSh.k 0 rfl _) ?_
              refine rsn 1 (t := (116, [(0, .ref 0)], [.ref 0])) rfl ?_
              refine pgI rfl rfl rfl (hSh.k 0 rfl _) ?_
              show RN xs L al (Ev xs L al d) 178 119 [(0, .ref 0)] [.int ((((mI m9 0 24)) + 1))] ((vI m9 0 24 ((((mI m9 0 24)) + 1))), S) (some (.int r0)) (mf, S)
              cases h
              exact rret rfl ⟨rfl, rfl, _, _, rfl, rfl, rfl, rfl⟩
            rw [jn] at h
            try dsimp only at h
            by_cases c10 : r7 = 1
            · rw [if_pos c10] at h
              refine rjf (a := (105, [(0, .ref 0), (1, .int x1), (2, .int r7)], [])) (b := (81, [(0, .ref 0), (1, .int x1), (2, .int r7)], [])) rfl rfl (fun q => q c10) ?_
              refine rsn 2 (t := (83, [(0, .ref 0), (1, .int x1), (2, .int r7)], [.ref 0, .ref 0])) rfl ?_
              refine pgJ rfl rfl rfl (hSh.k 0 rfl _) ?_
              show RN xs L al (Ev xs L al d) 178 86 [(0, .ref 0), (1, .int x1), (2, .int r7)] [.long ((mJ m8 0 23)), .ref 0] (m8, S) (some (.int r0)) (mf, S)
              refine rsn 4 (t := (91, [(0, .ref 0), (1, .int x1), (2, .int r7)], [.ref 0, .ref 0, .int 36, .long 1, .long ((mJ m8 0 23)), .ref 0])) rfl ?_
              refine pgI rfl rfl rfl (hSh.k 0 rfl _) ?_
              show RN xs L al (Ev xs L al d) 178 94 [(0, .ref 0), (1, .int x1), (2, .int r7)] [.int ((mI m8 0 24)), .ref 0, .int 36, .long 1, .long ((mJ m8 0 23)), .ref 0] (m8, S) (some (.int r0)) (mf, S)
              refine rsn 2 (t := (96, [(0, .ref 0), (1, .int x1), (2, .int r7)], [.int 2, .int x1, .int ((mI m8 0 24)), .ref 0, .int 36, .long 1, .long ((mJ m8 0 23)), .ref 0])) rfl ?_
              obtain ⟨r11, g11, h⟩ := b1_some h
              refine rcV 177 0 [.int ((mI m8 0 24)), .int x1, .int 2] rfl rfl rfl (hSh.k 0 rfl _) (Nat.le_of_ble_eq_true rfl) rfl (e_Mo_altOf N (by omega) hSh g11) ?_
              show RN xs L al (Ev xs L al d) 178 99 [(0, .ref 0), (1, .int x1), (2, .int r7)] [.int r11, .int 36, .long 1, .long ((mJ m8 0 23)), .ref 0] (m8, S) (some (.int r0)) (mf, S)
              refine rsn 3 (t := (102, [(0, .ref 0), (1, .int x1), (2, .int r7)], [.long ((((mJ m8 0 23)) ||| ((lsl 1 ((36 + r11)))))), .ref 0])) rfl ?_
              refine ppJ rfl rfl rfl rfl (hSh.k 0 rfl _) ?_
              exact rsub [(0, .ref 0)] ⟨rfl, trivial⟩ ⟨rfl, trivial⟩ (jp105 ((vJ m8 0 23 ((((mJ m8 0 23)) ||| ((lsl 1 ((36 + r11)))))))) h)
            · rw [if_neg c10] at h
              refine rjt (a := (105, [(0, .ref 0), (1, .int x1), (2, .int r7)], [])) (b := (81, [(0, .ref 0), (1, .int x1), (2, .int r7)], [])) rfl rfl c10 ?_
              exact rsub [(0, .ref 0)] ⟨rfl, trivial⟩ ⟨rfl, trivial⟩ (jp105 m8 h)
          rw [jn] at h
          try dsimp only at h
          by_cases c12 : r7 = 0
          · rw [if_pos c12] at h
            refine rjf (a := (76, [(2, .int r7), (0, .ref 0), (1, .int x1)], [])) (b := (62, [(2, .int r7), (0, .ref 0), (1, .int x1)], [])) rfl rfl (fun q => q c12) ?_
            refine rsn 3 (t := (65, [(2, .int r7), (0, .ref 0), (1, .int x1)], [.ref 0, .ref 0, .ref 0])) rfl ?_
            refine pgI rfl rfl rfl (hSh.k 0 rfl _) ?_
            show RN xs L al (Ev xs L al d) 178 68 [(2, .int r7), (0, .ref 0), (1, .int x1)] [.int ((mI m 0 24)), .ref 0, .ref 0] (m, S) (some (.int r0)) (mf, S)
            refine rsn 2 (t := (70, [(2, .int r7), (0, .ref 0), (1, .int x1)], [.int 2, .int x1, .int ((mI m 0 24)), .ref 0, .ref 0])) rfl ?_
            obtain ⟨r13, g13, h⟩ := b1_some h
            refine rcV 177 0 [.int ((mI m 0 24)), .int x1, .int 2] rfl rfl rfl (hSh.k 0 rfl _) (Nat.le_of_ble_eq_true rfl) rfl (e_Mo_altOf N (by omega) hSh g13) ?_
            show RN xs L al (Ev xs L al d) 178 73 [(2, .int r7), (0, .ref 0), (1, .int x1)] [.int r13, .ref 0] (m, S) (some (.int r0)) (mf, S)
            refine ppI rfl rfl rfl rfl (hSh.k 0 rfl _) ?_
            exact rsub [(0, .ref 0), (1, .int x1), (2, .int r7)] ⟨rfl, ⟨rfl, ⟨rfl, trivial⟩⟩⟩ ⟨rfl, ⟨rfl, ⟨rfl, trivial⟩⟩⟩ (jp76 ((vI m 0 25 r13)) h)
          · rw [if_neg c12] at h
            refine rjt (a := (76, [(2, .int r7), (0, .ref 0), (1, .int x1)], [])) (b := (62, [(2, .int r7), (0, .ref 0), (1, .int x1)], [])) rfl rfl c12 ?_
            exact rsub [(0, .ref 0), (1, .int x1), (2, .int r7)] ⟨rfl, ⟨rfl, ⟨rfl, trivial⟩⟩⟩ ⟨rfl, ⟨rfl, ⟨rfl, trivial⟩⟩⟩ (jp76 m h)
    · rw [if_neg c2] at h
      refine rjt (a := (45, [(0, .ref 0), (1, .int x1)], [])) (b := (15, [(0, .ref 0), (1, .int x1)], [])) rfl rfl c2 ?_
      refine rsn 1 (t := (46, [(0, .ref 0), (1, .int x1)], [.int ((-1))])) rfl ?_
      cases h
      exact rret rfl ⟨rfl, rfl, _, _, rfl, rfl, rfl, rfl⟩
def f_Mo_give (N : Nat) (x1 : Int32) (m : Mm) : Option (Int32 × Mm) := (if ((mI m 0 25)) = ((-1)) then some (0, m) else b1 (f_Mo_mayGive N ((mJ m 0 23)) x1 ((mI m 0 21))) fun r2 => (if r2 = 0 then some (0, m) else b1 (f_Mo_one N x1 ((mI m 0 25))) fun r4 => some (1, (vI (vJ m 0 23 ((((mJ m 0 23)) + r4))) 0 25 ((-1))))))
set_option maxRecDepth 20000 in
set_option maxHeartbeats 4000000 in
theorem e_Mo_give {xs : Nat → Int32} {L : Nat} {al : Bool} (N : Nat) {d : Nat} (hd : 4 ≤ d) {S : St} (hSh : ShR S) {x1 : Int32} {m : Mm} {r0 : Int32} {mf : Mm} (h : f_Mo_give N x1 m = some (r0, mf)) : Ev xs L al d 179 [.ref 0, .int x1] (m, S) (some (.int r0)) (mf, S) := by
  obtain ⟨d, rfl⟩ : ∃ e, d = e + 1 := ⟨d - 1, by omega⟩
  refine ev_of (by decide) (Nat.le_of_ble_eq_true rfl) ?_
  rw [f_Mo_give] at h
  show RN xs L al (Ev xs L al d) 179 0 [(0, .ref 0), (1, .int x1)] [] (m, S) (some (.int r0)) (mf, S)
  refine rsn 1 (t := (1, [(0, .ref 0), (1, .int x1)], [.ref 0])) rfl ?_
  refine pgI rfl rfl rfl (hSh.k 0 rfl _) ?_
  show RN xs L al (Ev xs L al d) 179 4 [(0, .ref 0), (1, .int x1)] [.int ((mI m 0 25))] (m, S) (some (.int r0)) (mf, S)
  refine rsn 1 (t := (5, [(0, .ref 0), (1, .int x1)], [.int ((-1)), .int ((mI m 0 25))])) rfl ?_
  by_cases c1 : ((mI m 0 25)) = ((-1))
  · rw [if_pos c1] at h
    refine rjt (a := (23, [(0, .ref 0), (1, .int x1)], [])) (b := (8, [(0, .ref 0), (1, .int x1)], [])) rfl rfl c1 ?_
    refine rsn 1 (t := (24, [(0, .ref 0), (1, .int x1)], [.int 0])) rfl ?_
    cases h
    exact rret rfl ⟨rfl, rfl, _, _, rfl, rfl, rfl, rfl⟩
  · rw [if_neg c1] at h
    refine rjf (a := (23, [(0, .ref 0), (1, .int x1)], [])) (b := (8, [(0, .ref 0), (1, .int x1)], [])) rfl rfl c1 ?_
    refine rsn 1 (t := (9, [(0, .ref 0), (1, .int x1)], [.ref 0])) rfl ?_
    refine pgJ rfl rfl rfl (hSh.k 0 rfl _) ?_
    show RN xs L al (Ev xs L al d) 179 12 [(0, .ref 0), (1, .int x1)] [.long ((mJ m 0 23))] (m, S) (some (.int r0)) (mf, S)
    refine rsn 2 (t := (14, [(0, .ref 0), (1, .int x1)], [.ref 0, .int x1, .long ((mJ m 0 23))])) rfl ?_
    refine pgI rfl rfl rfl (hSh.k 0 rfl _) ?_
    show RN xs L al (Ev xs L al d) 179 17 [(0, .ref 0), (1, .int x1)] [.int ((mI m 0 21)), .int x1, .long ((mJ m 0 23))] (m, S) (some (.int r0)) (mf, S)
    obtain ⟨r2, g2, h⟩ := b1_some h
    refine rcS 180 [.long ((mJ m 0 23)), .int x1, .int ((mI m 0 21))] rfl rfl rfl (Nat.le_of_ble_eq_true rfl) rfl (e_Mo_mayGive N (by omega) g2) ?_
    show RN xs L al (Ev xs L al d) 179 20 [(0, .ref 0), (1, .int x1)] [.int r2] (m, S) (some (.int r0)) (mf, S)
    by_cases c3 : r2 = 0
    · rw [if_pos c3] at h
      refine rjf (a := (25, [(0, .ref 0), (1, .int x1)], [])) (b := (23, [(0, .ref 0), (1, .int x1)], [])) rfl rfl (fun q => q c3) ?_
      refine rsn 1 (t := (24, [(0, .ref 0), (1, .int x1)], [.int 0])) rfl ?_
      cases h
      exact rret rfl ⟨rfl, rfl, _, _, rfl, rfl, rfl, rfl⟩
    · rw [if_neg c3] at h
      refine rjt (a := (25, [(0, .ref 0), (1, .int x1)], [])) (b := (23, [(0, .ref 0), (1, .int x1)], [])) rfl rfl c3 ?_
      refine rsn 2 (t := (27, [(0, .ref 0), (1, .int x1)], [.ref 0, .ref 0])) rfl ?_
      refine pgJ rfl rfl rfl (hSh.k 0 rfl _) ?_
      show RN xs L al (Ev xs L al d) 179 30 [(0, .ref 0), (1, .int x1)] [.long ((mJ m 0 23)), .ref 0] (m, S) (some (.int r0)) (mf, S)
      refine rsn 2 (t := (32, [(0, .ref 0), (1, .int x1)], [.ref 0, .int x1, .long ((mJ m 0 23)), .ref 0])) rfl ?_
      refine pgI rfl rfl rfl (hSh.k 0 rfl _) ?_
      show RN xs L al (Ev xs L al d) 179 35 [(0, .ref 0), (1, .int x1)] [.int ((mI m 0 25)), .int x1, .long ((mJ m 0 23)), .ref 0] (m, S) (some (.int r0)) (mf, S)
      obtain ⟨r4, g4, h⟩ := b1_some h
      refine rcS 182 [.int x1, .int ((mI m 0 25))] rfl rfl rfl (Nat.le_of_ble_eq_true rfl) rfl (e_Mo_one N (by omega) g4) ?_
      show RN xs L al (Ev xs L al d) 179 38 [(0, .ref 0), (1, .int x1)] [.long r4, .long ((mJ m 0 23)), .ref 0] (m, S) (some (.int r0)) (mf, S)
      refine rsn 1 (t := (39, [(0, .ref 0), (1, .int x1)], [.long ((((mJ m 0 23)) + r4)), .ref 0])) rfl ?_
      refine ppJ rfl rfl rfl rfl (hSh.k 0 rfl _) ?_
      refine rsn 2 (t := (44, [(0, .ref 0), (1, .int x1)], [.int ((-1)), .ref 0])) rfl ?_
      refine ppI rfl rfl rfl rfl (hSh.k 0 rfl _) ?_
      refine rsn 1 (t := (48, [(0, .ref 0), (1, .int x1)], [.int 1])) rfl ?_
      cases h
      exact rret rfl ⟨rfl, rfl, _, _, rfl, rfl, rfl, rfl⟩
def f_Mo_share_L14 (N : Nat) (x1 : Int64) (x4 : Int32) (m : Mm) (k14 : Int32 → Int32 → Option (Int32)) : Nat → Int32 → Int32 → Option (Int32)
  | 0, _, _ => none
  | n14 + 1, x3, x5 => f_Mo_share_L14 N x1 x4 m k14 n14 x3 x5
def f_Mo_share (N : Nat) (x1 : Int64) (m : Mm) : Option (Int32) := b1 (f_Mo_manyCame N x1) fun r1 => f_Mo_share_L14 N x1 r1 m (fun (z2_3 : Int32) (z2_5 : Int32) => some z2_3) N 3000 0
set_option maxRecDepth 20000 in
set_option maxHeartbeats 4000000 in
theorem e_Mo_share {xs : Nat → Int32} {L : Nat} {al : Bool} (N : Nat) {d : Nat} (hd : 3 ≤ d) {S : St} (hSh : ShR S) {x1 : Int64} {m : Mm} {r0 : Int32} (h : f_Mo_share N x1 m = some r0) : Ev xs L al d 188 [.ref 0, .long x1] (m, S) (some (.int r0)) (m, S) := by
  obtain ⟨d, rfl⟩ : ∃ e, d = e + 1 := ⟨d - 1, by omega⟩
  refine ev_of (by decide) (Nat.le_of_ble_eq_true rfl) ?_
  rw [f_Mo_share] at h
  show RN xs L al (Ev xs L al d) 188 0 [(0, .ref 0), (1, .long x1)] [] (m, S) (some (.int r0)) (m, S)
  refine rsn 4 (t := (6, [(3, .int 3000), (0, .ref 0), (1, .long x1)], [.long x1, .ref 0])) rfl ?_
  obtain ⟨r1, g1, h⟩ := b1_some h
  refine rcV 189 0 [.long x1] rfl rfl rfl (hSh.k 0 rfl _) (Nat.le_of_ble_eq_true rfl) rfl (e_Mo_manyCame N (by omega) g1) ?_
  show RN xs L al (Ev xs L al d) 188 9 [(3, .int 3000), (0, .ref 0), (1, .long x1)] [.int r1] (m, S) (some (.int r0)) (m, S)
  refine rsn 3 (t := (14, [(5, .int 0), (4, .int r1), (3, .int 3000), (0, .ref 0), (1, .long x1)], [])) rfl ?_
  have ex14 : ∀ (z2_3 : Int32) (z2_5 : Int32), (some z2_3) = some r0 → RN xs L al (Ev xs L al d) 188 115 [(3, .int z2_3)] [] (m, S) (some (.int r0)) (m, S) := by
    intro z2_3 z2_5 h
    try dsimp only at h
    refine rsn 1 (t := (116, [(3, .int z2_3)], [.int z2_3])) rfl ?_
    cases h
    exact rret rfl ⟨rfl, rfl, _, _, rfl, rfl, rfl, rfl⟩
  have lp14 : ∀ (n : Nat) (y3_3 : Int32) (y3_5 : Int32), (f_Mo_share_L14 N x1 r1 m (fun (z2_3 : Int32) (z2_5 : Int32) => some z2_3) n y3_3 y3_5) = some r0 → RN xs L al (Ev xs L al d) 188 14 [(0, .ref 0), (1, .long x1), (3, .int y3_3), (4, .int r1), (5, .int y3_5)] [] (m, S) (some (.int r0)) (m, S) := by
    intro n
    induction n with
    | zero => intro y3_3 y3_5 h; exact absurd h (by simp [f_Mo_share_L14])
    | succ n14 ih14 =>
      intro y3_3 y3_5 h
      try dsimp only at h
      rw [f_Mo_share_L14] at h
      try dsimp only at h
      exact rsub [(0, .ref 0), (1, .long x1), (3, .int y3_3), (4, .int r1), (5, .int y3_5)] ⟨rfl, ⟨rfl, ⟨rfl, ⟨rfl, ⟨rfl, trivial⟩⟩⟩⟩⟩ ⟨rfl, ⟨rfl, ⟨rfl, ⟨rfl, ⟨rfl, trivial⟩⟩⟩⟩⟩ (ih14 y3_3 y3_5 h)
  exact rsub [(0, .ref 0), (1, .long x1), (3, .int 3000), (4, .int r1), (5, .int 0)] ⟨rfl, ⟨rfl, ⟨rfl, ⟨rfl, ⟨rfl, trivial⟩⟩⟩⟩⟩ ⟨rfl, ⟨rfl, ⟨rfl, ⟨rfl, ⟨rfl, trivial⟩⟩⟩⟩⟩ (lp14 N 3000 0 h)
def f_Mo_leftOut_L25 (N : Nat) (x3 : Int32) (x4 : Int32) (x5 : Int32) (m : Mm) (k25 : Int32 → Int64 → Int32 → Option (Int32)) : Nat → Int32 → Int64 → Int32 → Option (Int32)
  | 0, _, _, _ => none
  | n25 + 1, x6, x7, x9 => f_Mo_leftOut_L25 N x3 x4 x5 m k25 n25 x6 x7 x9
def f_Mo_leftOut (N : Nat) (x1 : Int64) (x3 : Int32) (x4 : Int32) (m : Mm) : Option (Int32) := b1 (f_Mo_worthTo N x1 x3 x3 m) fun r1 => b1 (f_Mo_worthTo N x1 x3 x4 m) fun r2 => f_Mo_leftOut_L25 N x3 x4 r1 m (fun (z3_6 : Int32) (z3_7 : Int64) (z3_9 : Int32) => some z3_9) N r2 x1 0
set_option maxRecDepth 20000 in
set_option maxHeartbeats 4000000 in
theorem e_Mo_leftOut {xs : Nat → Int32} {L : Nat} {al : Bool} (N : Nat) {d : Nat} (hd : 3 ≤ d) {S : St} (hSh : ShR S) {x1 : Int64} {x3 : Int32} {x4 : Int32} {m : Mm} {r0 : Int32} (h : f_Mo_leftOut N x1 x3 x4 m = some r0) : Ev xs L al d 190 [.ref 0, .long x1, .int x3, .int x4] (m, S) (some (.int r0)) (m, S) := by
  obtain ⟨d, rfl⟩ : ∃ e, d = e + 1 := ⟨d - 1, by omega⟩
  refine ev_of (by decide) (Nat.le_of_ble_eq_true rfl) ?_
  rw [f_Mo_leftOut] at h
  show RN xs L al (Ev xs L al d) 190 0 [(0, .ref 0), (1, .long x1), (3, .int x3), (4, .int x4)] [] (m, S) (some (.int r0)) (m, S)
  refine rsn 4 (t := (4, [(0, .ref 0), (1, .long x1), (3, .int x3), (4, .int x4)], [.int x3, .int x3, .long x1, .ref 0])) rfl ?_
  obtain ⟨r1, g1, h⟩ := b1_some h
  refine rcV 175 0 [.long x1, .int x3, .int x3] rfl rfl rfl (hSh.k 0 rfl _) (Nat.le_of_ble_eq_true rfl) rfl (e_Mo_worthTo N (by omega) hSh g1) ?_
  show RN xs L al (Ev xs L al d) 190 7 [(0, .ref 0), (1, .long x1), (3, .int x3), (4, .int x4)] [.int r1] (m, S) (some (.int r0)) (m, S)
  refine rsn 5 (t := (14, [(5, .int r1), (0, .ref 0), (1, .long x1), (3, .int x3), (4, .int x4)], [.int x4, .int x3, .long x1, .ref 0])) rfl ?_
  obtain ⟨r2, g2, h⟩ := b1_some h
  refine rcV 175 0 [.long x1, .int x3, .int x4] rfl rfl rfl (hSh.k 0 rfl _) (Nat.le_of_ble_eq_true rfl) rfl (e_Mo_worthTo N (by omega) hSh g2) ?_
  show RN xs L al (Ev xs L al d) 190 17 [(5, .int r1), (0, .ref 0), (1, .long x1), (3, .int x3), (4, .int x4)] [.int r2] (m, S) (some (.int r0)) (m, S)
  refine rsn 5 (t := (25, [(9, .int 0), (7, .long x1), (6, .int r2), (5, .int r1), (0, .ref 0), (1, .long x1), (3, .int x3), (4, .int x4)], [])) rfl ?_
  have ex25 : ∀ (z3_6 : Int32) (z3_7 : Int64) (z3_9 : Int32), (some z3_9) = some r0 → RN xs L al (Ev xs L al d) 190 131 [(9, .int z3_9)] [] (m, S) (some (.int r0)) (m, S) := by
    intro z3_6 z3_7 z3_9 h
    try dsimp only at h
    refine rsn 1 (t := (133, [(9, .int z3_9)], [.int z3_9])) rfl ?_
    cases h
    exact rret rfl ⟨rfl, rfl, _, _, rfl, rfl, rfl, rfl⟩
  have lp25 : ∀ (n : Nat) (y4_6 : Int32) (y4_7 : Int64) (y4_9 : Int32), (f_Mo_leftOut_L25 N x3 x4 r1 m (fun (z3_6 : Int32) (z3_7 : Int64) (z3_9 : Int32) => some z3_9) n y4_6 y4_7 y4_9) = some r0 → RN xs L al (Ev xs L al d) 190 25 [(0, .ref 0), (3, .int x3), (4, .int x4), (5, .int r1), (6, .int y4_6), (7, .long y4_7), (9, .int y4_9)] [] (m, S) (some (.int r0)) (m, S) := by
    intro n
    induction n with
    | zero => intro y4_6 y4_7 y4_9 h; exact absurd h (by simp [f_Mo_leftOut_L25])
    | succ n25 ih25 =>
      intro y4_6 y4_7 y4_9 h
      try dsimp only at h
      rw [f_Mo_leftOut_L25] at h
      try dsimp only at h
      exact rsub [(0, .ref 0), (3, .int x3), (4, .int x4), (5, .int r1), (6, .int y4_6), (7, .long y4_7), (9, .int y4_9)] ⟨rfl, ⟨rfl, ⟨rfl, ⟨rfl, ⟨rfl, ⟨rfl, ⟨rfl, trivial⟩⟩⟩⟩⟩⟩⟩ ⟨rfl, ⟨rfl, ⟨rfl, ⟨rfl, ⟨rfl, ⟨rfl, ⟨rfl, trivial⟩⟩⟩⟩⟩⟩⟩ (ih25 y4_6 y4_7 y4_9 h)
  exact rsub [(0, .ref 0), (3, .int x3), (4, .int x4), (5, .int r1), (6, .int r2), (7, .long x1), (9, .int 0)] ⟨rfl, ⟨rfl, ⟨rfl, ⟨rfl, ⟨rfl, ⟨rfl, ⟨rfl, trivial⟩⟩⟩⟩⟩⟩⟩ ⟨rfl, ⟨rfl, ⟨rfl, ⟨rfl, ⟨rfl, ⟨rfl, ⟨rfl, trivial⟩⟩⟩⟩⟩⟩⟩ (lp25 N r2 x1 0 h)
def f_Mo_goalOf_L16 (N : Nat) (x1 : Int64) (x3 : Int32) (m : Mm) (k16 : Int32 → Int32 → Option (Int32)) : Nat → Int32 → Int32 → Option (Int32)
  | 0, _, _ => none
  | n16 + 1, x4, x5 => f_Mo_goalOf_L16 N x1 x3 m k16 n16 x4 x5
def f_Mo_goalOf (N : Nat) (x1 : Int64) (x3 : Int32) (m : Mm) : Option (Int32) := (if x3 = 0 then b1 (f_Mo_share N x1 m) fun r5 => some r5 else f_Mo_goalOf_L16 N x1 x3 m (fun (z2_4 : Int32) (z2_5 : Int32) => (if x3 = 1 then some ((-z2_4)) else some z2_4)) N 0 0)
set_option maxRecDepth 20000 in
set_option maxHeartbeats 4000000 in
theorem e_Mo_goalOf {xs : Nat → Int32} {L : Nat} {al : Bool} (N : Nat) {d : Nat} (hd : 4 ≤ d) {S : St} (hSh : ShR S) {x1 : Int64} {x3 : Int32} {m : Mm} {r0 : Int32} (h : f_Mo_goalOf N x1 x3 m = some r0) : Ev xs L al d 187 [.ref 0, .long x1, .int x3] (m, S) (some (.int r0)) (m, S) := by
  obtain ⟨d, rfl⟩ : ∃ e, d = e + 1 := ⟨d - 1, by omega⟩
  refine ev_of (by decide) (Nat.le_of_ble_eq_true rfl) ?_
  rw [f_Mo_goalOf] at h
  show RN xs L al (Ev xs L al d) 187 0 [(0, .ref 0), (1, .long x1), (3, .int x3)] [] (m, S) (some (.int r0)) (m, S)
  refine rsn 1 (t := (1, [(0, .ref 0), (1, .long x1), (3, .int x3)], [.int x3])) rfl ?_
  by_cases c1 : x3 = 0
  · rw [if_pos c1] at h
    refine rjf (a := (10, [(0, .ref 0), (1, .long x1), (3, .int x3)], [])) (b := (4, [(0, .ref 0), (1, .long x1), (3, .int x3)], [])) rfl rfl (fun q => q c1) ?_
    refine rsn 2 (t := (6, [(0, .ref 0), (1, .long x1), (3, .int x3)], [.long x1, .ref 0])) rfl ?_
    obtain ⟨r5, g5, h⟩ := b1_some h
    refine rcV 188 0 [.long x1] rfl rfl rfl (hSh.k 0 rfl _) (Nat.le_of_ble_eq_true rfl) rfl (e_Mo_share N (by omega) hSh g5) ?_
    show RN xs L al (Ev xs L al d) 187 9 [(0, .ref 0), (1, .long x1), (3, .int x3)] [.int r5] (m, S) (some (.int r0)) (m, S)
    cases h
    exact rret rfl ⟨rfl, rfl, _, _, rfl, rfl, rfl, rfl⟩
  · rw [if_neg c1] at h
    refine rjt (a := (10, [(0, .ref 0), (1, .long x1), (3, .int x3)], [])) (b := (4, [(0, .ref 0), (1, .long x1), (3, .int x3)], [])) rfl rfl c1 ?_
    refine rsn 4 (t := (16, [(5, .int 0), (4, .int 0), (0, .ref 0), (1, .long x1), (3, .int x3)], [])) rfl ?_
    have ex16 : ∀ (z2_4 : Int32) (z2_5 : Int32), ((if x3 = 1 then some ((-z2_4)) else some z2_4)) = some r0 → RN xs L al (Ev xs L al d) 187 126 [(3, .int x3), (4, .int z2_4)] [] (m, S) (some (.int r0)) (m, S) := by
      intro z2_4 z2_5 h
      try dsimp only at h
      refine rsn 2 (t := (128, [(3, .int x3), (4, .int z2_4)], [.int 1, .int x3])) rfl ?_
      by_cases c3 : x3 = 1
      · rw [if_pos c3] at h
        refine rjf (a := (137, [(3, .int x3), (4, .int z2_4)], [])) (b := (131, [(3, .int x3), (4, .int z2_4)], [])) rfl rfl (fun q => q c3) ?_
        refine rsn 3 (t := (139, [(3, .int x3), (4, .int z2_4)], [.int ((-z2_4))])) rfl ?_
        cases h
        exact rret rfl ⟨rfl, rfl, _, _, rfl, rfl, rfl, rfl⟩
      · rw [if_neg c3] at h
        refine rjt (a := (137, [(3, .int x3), (4, .int z2_4)], [])) (b := (131, [(3, .int x3), (4, .int z2_4)], [])) rfl rfl c3 ?_
        refine rsn 1 (t := (139, [(3, .int x3), (4, .int z2_4)], [.int z2_4])) rfl ?_
        cases h
        exact rret rfl ⟨rfl, rfl, _, _, rfl, rfl, rfl, rfl⟩
    have lp16 : ∀ (n : Nat) (y4_4 : Int32) (y4_5 : Int32), (f_Mo_goalOf_L16 N x1 x3 m (fun (z2_4 : Int32) (z2_5 : Int32) => (if x3 = 1 then some ((-z2_4)) else some z2_4)) n y4_4 y4_5) = some r0 → RN xs L al (Ev xs L al d) 187 16 [(0, .ref 0), (1, .long x1), (3, .int x3), (4, .int y4_4), (5, .int y4_5)] [] (m, S) (some (.int r0)) (m, S) := by
      intro n
      induction n with
      | zero => intro y4_4 y4_5 h; exact absurd h (by simp [f_Mo_goalOf_L16])
      | succ n16 ih16 =>
        intro y4_4 y4_5 h
        try dsimp only at h
        rw [f_Mo_goalOf_L16] at h
        try dsimp only at h
        exact rsub [(0, .ref 0), (1, .long x1), (3, .int x3), (4, .int y4_4), (5, .int y4_5)] ⟨rfl, ⟨rfl, ⟨rfl, ⟨rfl, ⟨rfl, trivial⟩⟩⟩⟩⟩ ⟨rfl, ⟨rfl, ⟨rfl, ⟨rfl, ⟨rfl, trivial⟩⟩⟩⟩⟩ (ih16 y4_4 y4_5 h)
    exact rsub [(0, .ref 0), (1, .long x1), (3, .int x3), (4, .int 0), (5, .int 0)] ⟨rfl, ⟨rfl, ⟨rfl, ⟨rfl, ⟨rfl, trivial⟩⟩⟩⟩⟩ ⟨rfl, ⟨rfl, ⟨rfl, ⟨rfl, ⟨rfl, trivial⟩⟩⟩⟩⟩ (lp16 N 0 0 h)
def f_Mo_twice_L11 (N : Nat) (x1 : Int64) (x3 : Int32) (m : Mm) (k11 : Int32 → Int32 → Option (Int32)) : Nat → Int32 → Int32 → Option (Int32)
  | 0, _, _ => none
  | n11 + 1, x4, x5 => f_Mo_twice_L11 N x1 x3 m k11 n11 x4 x5
def f_Mo_twice (N : Nat) (x1 : Int64) (x3 : Int32) (m : Mm) : Option (Int32) := b1 (f_Mo_goalOf N x1 x3 m) fun r1 => f_Mo_twice_L11 N x1 x3 m (fun (z2_4 : Int32) (z2_5 : Int32) => some z2_4) N r1 0
set_option maxRecDepth 20000 in
set_option maxHeartbeats 4000000 in
theorem e_Mo_twice {xs : Nat → Int32} {L : Nat} {al : Bool} (N : Nat) {d : Nat} (hd : 5 ≤ d) {S : St} (hSh : ShR S) {x1 : Int64} {x3 : Int32} {m : Mm} {r0 : Int32} (h : f_Mo_twice N x1 x3 m = some r0) : Ev xs L al d 191 [.ref 0, .long x1, .int x3] (m, S) (some (.int r0)) (m, S) := by
  obtain ⟨d, rfl⟩ : ∃ e, d = e + 1 := ⟨d - 1, by omega⟩
  refine ev_of (by decide) (Nat.le_of_ble_eq_true rfl) ?_
  rw [f_Mo_twice] at h
  show RN xs L al (Ev xs L al d) 191 0 [(0, .ref 0), (1, .long x1), (3, .int x3)] [] (m, S) (some (.int r0)) (m, S)
  refine rsn 3 (t := (3, [(0, .ref 0), (1, .long x1), (3, .int x3)], [.int x3, .long x1, .ref 0])) rfl ?_
  obtain ⟨r1, g1, h⟩ := b1_some h
  refine rcV 187 0 [.long x1, .int x3] rfl rfl rfl (hSh.k 0 rfl _) (Nat.le_of_ble_eq_true rfl) rfl (e_Mo_goalOf N (by omega) hSh g1) ?_
  show RN xs L al (Ev xs L al d) 191 6 [(0, .ref 0), (1, .long x1), (3, .int x3)] [.int r1] (m, S) (some (.int r0)) (m, S)
  refine rsn 3 (t := (11, [(5, .int 0), (4, .int r1), (0, .ref 0), (1, .long x1), (3, .int x3)], [])) rfl ?_
  have ex11 : ∀ (z2_4 : Int32) (z2_5 : Int32), (some z2_4) = some r0 → RN xs L al (Ev xs L al d) 191 135 [(4, .int z2_4)] [] (m, S) (some (.int r0)) (m, S) := by
    intro z2_4 z2_5 h
    try dsimp only at h
    refine rsn 1 (t := (137, [(4, .int z2_4)], [.int z2_4])) rfl ?_
    cases h
    exact rret rfl ⟨rfl, rfl, _, _, rfl, rfl, rfl, rfl⟩
  have lp11 : ∀ (n : Nat) (y3_4 : Int32) (y3_5 : Int32), (f_Mo_twice_L11 N x1 x3 m (fun (z2_4 : Int32) (z2_5 : Int32) => some z2_4) n y3_4 y3_5) = some r0 → RN xs L al (Ev xs L al d) 191 11 [(0, .ref 0), (1, .long x1), (3, .int x3), (4, .int y3_4), (5, .int y3_5)] [] (m, S) (some (.int r0)) (m, S) := by
    intro n
    induction n with
    | zero => intro y3_4 y3_5 h; exact absurd h (by simp [f_Mo_twice_L11])
    | succ n11 ih11 =>
      intro y3_4 y3_5 h
      try dsimp only at h
      rw [f_Mo_twice_L11] at h
      try dsimp only at h
      exact rsub [(0, .ref 0), (1, .long x1), (3, .int x3), (4, .int y3_4), (5, .int y3_5)] ⟨rfl, ⟨rfl, ⟨rfl, ⟨rfl, ⟨rfl, trivial⟩⟩⟩⟩⟩ ⟨rfl, ⟨rfl, ⟨rfl, ⟨rfl, ⟨rfl, trivial⟩⟩⟩⟩⟩ (ih11 y3_4 y3_5 h)
  exact rsub [(0, .ref 0), (1, .long x1), (3, .int x3), (4, .int r1), (5, .int 0)] ⟨rfl, ⟨rfl, ⟨rfl, ⟨rfl, ⟨rfl, trivial⟩⟩⟩⟩⟩ ⟨rfl, ⟨rfl, ⟨rfl, ⟨rfl, ⟨rfl, trivial⟩⟩⟩⟩⟩ (lp11 N r1 0 h)
def f_Mo_backed_L19 (N : Nat) (x1 : Int64) (x3 : Int32) (x4 : Int32) (m : Mm) (k19 : Int32 → Int32 → Option (Int32)) : Nat → Int32 → Int32 → Option (Int32)
  | 0, _, _ => none
  | n19 + 1, x5, x6 => f_Mo_backed_L19 N x1 x3 x4 m k19 n19 x5 x6
def f_Mo_backed (N : Nat) (x1 : Int64) (x3 : Int32) (x4 : Int32) (m : Mm) : Option (Int32) := b1 (f_Mo_goalOf N x1 x3 m) fun r1 => (if x4 = 0 then some r1 else f_Mo_backed_L19 N x1 x3 x4 m (fun (z3_5 : Int32) (z3_6 : Int32) => some z3_5) N r1 0)
set_option maxRecDepth 20000 in
set_option maxHeartbeats 4000000 in
theorem e_Mo_backed {xs : Nat → Int32} {L : Nat} {al : Bool} (N : Nat) {d : Nat} (hd : 6 ≤ d) {S : St} (hSh : ShR S) {x1 : Int64} {x3 : Int32} {x4 : Int32} {m : Mm} {r0 : Int32} (h : f_Mo_backed N x1 x3 x4 m = some r0) : Ev xs L al d 186 [.ref 0, .long x1, .int x3, .int x4] (m, S) (some (.int r0)) (m, S) := by
  obtain ⟨d, rfl⟩ : ∃ e, d = e + 1 := ⟨d - 1, by omega⟩
  refine ev_of (by decide) (Nat.le_of_ble_eq_true rfl) ?_
  rw [f_Mo_backed] at h
  show RN xs L al (Ev xs L al d) 186 0 [(0, .ref 0), (1, .long x1), (3, .int x3), (4, .int x4)] [] (m, S) (some (.int r0)) (m, S)
  refine rsn 3 (t := (3, [(0, .ref 0), (1, .long x1), (3, .int x3), (4, .int x4)], [.int x3, .long x1, .ref 0])) rfl ?_
  obtain ⟨r1, g1, h⟩ := b1_some h
  refine rcV 187 0 [.long x1, .int x3] rfl rfl rfl (hSh.k 0 rfl _) (Nat.le_of_ble_eq_true rfl) rfl (e_Mo_goalOf N (by omega) hSh g1) ?_
  show RN xs L al (Ev xs L al d) 186 6 [(0, .ref 0), (1, .long x1), (3, .int x3), (4, .int x4)] [.int r1] (m, S) (some (.int r0)) (m, S)
  refine rsn 2 (t := (10, [(5, .int r1), (0, .ref 0), (1, .long x1), (3, .int x3), (4, .int x4)], [.int x4])) rfl ?_
  by_cases c2 : x4 = 0
  · rw [if_pos c2] at h
    refine rjf (a := (16, [(5, .int r1), (0, .ref 0), (1, .long x1), (3, .int x3), (4, .int x4)], [])) (b := (13, [(5, .int r1), (0, .ref 0), (1, .long x1), (3, .int x3), (4, .int x4)], [])) rfl rfl (fun q => q c2) ?_
    refine rsn 1 (t := (15, [(5, .int r1), (0, .ref 0), (1, .long x1), (3, .int x3), (4, .int x4)], [.int r1])) rfl ?_
    cases h
    exact rret rfl ⟨rfl, rfl, _, _, rfl, rfl, rfl, rfl⟩
  · rw [if_neg c2] at h
    refine rjt (a := (16, [(5, .int r1), (0, .ref 0), (1, .long x1), (3, .int x3), (4, .int x4)], [])) (b := (13, [(5, .int r1), (0, .ref 0), (1, .long x1), (3, .int x3), (4, .int x4)], [])) rfl rfl c2 ?_
    refine rsn 2 (t := (19, [(6, .int 0), (5, .int r1), (0, .ref 0), (1, .long x1), (3, .int x3), (4, .int x4)], [])) rfl ?_
    have ex19 : ∀ (z3_5 : Int32) (z3_6 : Int32), (some z3_5) = some r0 → RN xs L al (Ev xs L al d) 186 163 [(5, .int z3_5)] [] (m, S) (some (.int r0)) (m, S) := by
      intro z3_5 z3_6 h
      try dsimp only at h
      refine rsn 1 (t := (165, [(5, .int z3_5)], [.int z3_5])) rfl ?_
      cases h
      exact rret rfl ⟨rfl, rfl, _, _, rfl, rfl, rfl, rfl⟩
    have lp19 : ∀ (n : Nat) (y4_5 : Int32) (y4_6 : Int32), (f_Mo_backed_L19 N x1 x3 x4 m (fun (z3_5 : Int32) (z3_6 : Int32) => some z3_5) n y4_5 y4_6) = some r0 → RN xs L al (Ev xs L al d) 186 19 [(0, .ref 0), (1, .long x1), (3, .int x3), (4, .int x4), (5, .int y4_5), (6, .int y4_6)] [] (m, S) (some (.int r0)) (m, S) := by
      intro n
      induction n with
      | zero => intro y4_5 y4_6 h; exact absurd h (by simp [f_Mo_backed_L19])
      | succ n19 ih19 =>
        intro y4_5 y4_6 h
        try dsimp only at h
        rw [f_Mo_backed_L19] at h
        try dsimp only at h
        exact rsub [(0, .ref 0), (1, .long x1), (3, .int x3), (4, .int x4), (5, .int y4_5), (6, .int y4_6)] ⟨rfl, ⟨rfl, ⟨rfl, ⟨rfl, ⟨rfl, ⟨rfl, trivial⟩⟩⟩⟩⟩⟩ ⟨rfl, ⟨rfl, ⟨rfl, ⟨rfl, ⟨rfl, ⟨rfl, trivial⟩⟩⟩⟩⟩⟩ (ih19 y4_5 y4_6 h)
    exact rsub [(0, .ref 0), (1, .long x1), (3, .int x3), (4, .int x4), (5, .int r1), (6, .int 0)] ⟨rfl, ⟨rfl, ⟨rfl, ⟨rfl, ⟨rfl, ⟨rfl, trivial⟩⟩⟩⟩⟩⟩ ⟨rfl, ⟨rfl, ⟨rfl, ⟨rfl, ⟨rfl, ⟨rfl, trivial⟩⟩⟩⟩⟩⟩ (lp19 N r1 0 h)
def f_Mo_ends_L30 (N : Nat) (x1 : Int64) (x3 : Int32) (x4 : Int32) (x5 : Int64) (m : Mm) (k30 : Int32 → Option (Int32 × Mm)) : Nat → Int32 → Option (Int32 × Mm)
  | 0, _ => none
  | n30 + 1, x7 => f_Mo_ends_L30 N x1 x3 x4 x5 m k30 n30 x7
def f_Mo_ends_L98 (N : Nat) (x1 : Int64) (x3 : Int32) (x4 : Int32) (x5 : Int64) (x7 : Int32) (k98 : Int32 → Int64 → Int32 → Mm → Option (Int32 × Mm)) : Nat → Int32 → Int64 → Int32 → Mm → Option (Int32 × Mm)
  | 0, _, _, _, _ => none
  | n98 + 1, x8, x9, x11, m => f_Mo_ends_L98 N x1 x3 x4 x5 x7 k98 n98 x8 x9 x11 m
def f_Mo_ends_L195 (N : Nat) (x1 : Int64) (x3 : Int32) (x4 : Int32) (x5 : Int64) (x7 : Int32) (x8 : Int32) (x9 : Int64) (x11 : Int32) (m : Mm) (k195 : Int32 → Int32 → Option (Int32 × Mm)) : Nat → Int32 → Int32 → Option (Int32 × Mm)
  | 0, _, _ => none
  | n195 + 1, x12, x13 => f_Mo_ends_L195 N x1 x3 x4 x5 x7 x8 x9 x11 m k195 n195 x12 x13
def f_Mo_ends (N : Nat) (x1 : Int64) (x3 : Int32) (x4 : Int32) (m : Mm) : Option (Int32 × Mm) := f_Mo_ends_L30 N x1 x3 x4 ((((((lsl x1 4)) ||| ((((4 * x4.toInt64)) + x3.toInt64)))) + 1)) m (fun (z1_7 : Int32) => ck (ix z1_7 262144) ((if ((mYy m 14 z1_7.toNatClampNeg)) = ((((((lsl x1 4)) ||| ((((4 * x4.toInt64)) + x3.toInt64)))) + 1)) then ck (ix z1_7 262144) (some ((mX m 15 z1_7.toNatClampNeg), m)) else f_Mo_ends_L98 N x1 x3 x4 ((((((lsl x1 4)) ||| ((((4 * x4.toInt64)) + x3.toInt64)))) + 1)) z1_7 (fun (z4_8 : Int32) (z4_9 : Int64) (z4_11 : Int32) (m4 : Mm) => (jn (fun (s5 : Int32) => f_Mo_ends_L195 N x1 x3 x4 ((((((lsl x1 4)) ||| ((((4 * x4.toInt64)) + x3.toInt64)))) + 1)) z1_7 z4_8 z4_9 s5 m4 (fun (z6_12 : Int32) (z6_13 : Int32) => (if 131072 ≤ ((mI m4 0 33)) then some (z6_12, m4) else ck (ix z1_7 262144) (ck (ix z1_7 262144) (some (z6_12, (vI (vX (vY m4 14 z1_7.toNatClampNeg ((((((lsl x1 4)) ||| ((((4 * x4.toInt64)) + x3.toInt64)))) + 1))) 15 z1_7.toNatClampNeg z6_12) 0 33 ((((mI m4 0 33)) + 1)))))))) N ((-2147483648)) 0) (fun j185 => if z4_8 = 0 then j185 1 else (if z4_8 = 1 then j185 3 else (if z4_8 = 2 then j185 9 else j185 27))))) N 0 x1 0 m))) N (((lus ((((((((lsl x1 4)) ||| ((((4 * x4.toInt64)) + x3.toInt64)))) + 1)) * ((-7046029254386353131)))) 46)).toInt32)
set_option maxRecDepth 20000 in
set_option maxHeartbeats 4000000 in
theorem e_Mo_ends {xs : Nat → Int32} {L : Nat} {al : Bool} (N : Nat) {d : Nat} (hd : 7 ≤ d) {S : St} (hSh : ShR S) {x1 : Int64} {x3 : Int32} {x4 : Int32} {m : Mm} {r0 : Int32} {mf : Mm} (h : f_Mo_ends N x1 x3 x4 m = some (r0, mf)) : Ev xs L al d 185 [.ref 0, .long x1, .int x3, .int x4] (m, S) (some (.int r0)) (mf, S) := by
  obtain ⟨d, rfl⟩ : ∃ e, d = e + 1 := ⟨d - 1, by omega⟩
  refine ev_of (by decide) (Nat.le_of_ble_eq_true rfl) ?_
  rw [f_Mo_ends] at h
  show RN xs L al (Ev xs L al d) 185 0 [(0, .ref 0), (1, .long x1), (3, .int x3), (4, .int x4)] [] (m, S) (some (.int r0)) (mf, S)
  refine rsn 21 (t := (30, [(7, .int (((lus ((((((((lsl x1 4)) ||| ((((4 * x4.toInt64)) + x3.toInt64)))) + 1)) * ((-7046029254386353131)))) 46)).toInt32)), (5, .long ((((((lsl x1 4)) ||| ((((4 * x4.toInt64)) + x3.toInt64)))) + 1))), (0, .ref 0), (1, .long x1), (3, .int x3), (4, .int x4)], [])) rfl ?_
  have ex30 : ∀ (z1_7 : Int32), (ck (ix z1_7 262144) ((if ((mYy m 14 z1_7.toNatClampNeg)) = ((((((lsl x1 4)) ||| ((((4 * x4.toInt64)) + x3.toInt64)))) + 1)) then ck (ix z1_7 262144) (some ((mX m 15 z1_7.toNatClampNeg), m)) else f_Mo_ends_L98 N x1 x3 x4 ((((((lsl x1 4)) ||| ((((4 * x4.toInt64)) + x3.toInt64)))) + 1)) z1_7 (fun (z4_8 : Int32) (z4_9 : Int64) (z4_11 : Int32) (m4 : Mm) => (jn (fun (s5 : Int32) => f_Mo_ends_L195 N x1 x3 x4 ((((((lsl x1 4)) ||| ((((4 * x4.toInt64)) + x3.toInt64)))) + 1)) z1_7 z4_8 z4_9 s5 m4 (fun (z6_12 : Int32) (z6_13 : Int32) => (if 131072 ≤ ((mI m4 0 33)) then some (z6_12, m4) else ck (ix z1_7 262144) (ck (ix z1_7 262144) (some (z6_12, (vI (vX (vY m4 14 z1_7.toNatClampNeg ((((((lsl x1 4)) ||| ((((4 * x4.toInt64)) + x3.toInt64)))) + 1))) 15 z1_7.toNatClampNeg z6_12) 0 33 ((((mI m4 0 33)) + 1)))))))) N ((-2147483648)) 0) (fun j185 => if z4_8 = 0 then j185 1 else (if z4_8 = 1 then j185 3 else (if z4_8 = 2 then j185 9 else j185 27))))) N 0 x1 0 m))) = some (r0, mf) → RN xs L al (Ev xs L al d) 185 68 [(0, .ref 0), (1, .long x1), (3, .int x3), (4, .int x4), (5, .long ((((((lsl x1 4)) ||| ((((4 * x4.toInt64)) + x3.toInt64)))) + 1))), (7, .int z1_7)] [] (m, S) (some (.int r0)) (mf, S) := by
    intro z1_7 h
    try dsimp only at h
    refine rsn 1 (t := (69, [(0, .ref 0), (1, .long x1), (3, .int x3), (4, .int x4), (5, .long ((((((lsl x1 4)) ||| ((((4 * x4.toInt64)) + x3.toInt64)))) + 1))), (7, .int z1_7)], [.ref 0])) rfl ?_
    refine rgR rfl rfl rfl (hSh.k 0 rfl _) (hSh.r 13 rfl _) ?_
    refine rsn 1 (t := (74, [(0, .ref 0), (1, .long x1), (3, .int x3), (4, .int x4), (5, .long ((((((lsl x1 4)) ||| ((((4 * x4.toInt64)) + x3.toInt64)))) + 1))), (7, .int z1_7)], [.int z1_7, .ref 14])) rfl ?_
    obtain ⟨c2, h⟩ := ck_some h
    refine pxJ rfl (hSh.k 14 rfl _) (hSh.l 13 rfl _) c2 ?_
    show RN xs L al (Ev xs L al d) 185 75 [(0, .ref 0), (1, .long x1), (3, .int x3), (4, .int x4), (5, .long ((((((lsl x1 4)) ||| ((((4 * x4.toInt64)) + x3.toInt64)))) + 1))), (7, .int z1_7)] [.long ((mYy m 14 z1_7.toNatClampNeg))] (m, S) (some (.int r0)) (mf, S)
    refine rsn 2 (t := (78, [(0, .ref 0), (1, .long x1), (3, .int x3), (4, .int x4), (5, .long ((((((lsl x1 4)) ||| ((((4 * x4.toInt64)) + x3.toInt64)))) + 1))), (7, .int z1_7)], [.int ((lg_cmp ((mYy m 14 z1_7.toNatClampNeg)) ((((((lsl x1 4)) ||| ((((4 * x4.toInt64)) + x3.toInt64)))) + 1))))])) rfl ?_
    by_cases c3 : ((mYy m 14 z1_7.toNatClampNeg)) = ((((((lsl x1 4)) ||| ((((4 * x4.toInt64)) + x3.toInt64)))) + 1))
    · rw [if_pos c3] at h
      refine rjf (a := (89, [(0, .ref 0), (1, .long x1), (3, .int x3), (4, .int x4), (5, .long ((((((lsl x1 4)) ||| ((((4 * x4.toInt64)) + x3.toInt64)))) + 1))), (7, .int z1_7)], [])) (b := (81, [(0, .ref 0), (1, .long x1), (3, .int x3), (4, .int x4), (5, .long ((((((lsl x1 4)) ||| ((((4 * x4.toInt64)) + x3.toInt64)))) + 1))), (7, .int z1_7)], [])) rfl rfl (fun q => q (lgc_eq.mpr c3)) ?_
      refine rsn 1 (t := (82, [(0, .ref 0), (1, .long x1), (3, .int x3), (4, .int x4), (5, .long ((((((lsl x1 4)) ||| ((((4 * x4.toInt64)) + x3.toInt64)))) + 1))), (7, .int z1_7)], [.ref 0])) rfl ?_
      refine rgR rfl rfl rfl (hSh.k 0 rfl _) (hSh.r 14 rfl _) ?_
      refine rsn 1 (t := (87, [(0, .ref 0), (1, .long x1), (3, .int x3), (4, .int x4), (5, .long ((((((lsl x1 4)) ||| ((((4 * x4.toInt64)) + x3.toInt64)))) + 1))), (7, .int z1_7)], [.int z1_7, .ref 15])) rfl ?_
      obtain ⟨c15, h⟩ := ck_some h
      refine pxI rfl (hSh.k 15 rfl _) (hSh.l 14 rfl _) c15 ?_
      show RN xs L al (Ev xs L al d) 185 88 [(0, .ref 0), (1, .long x1), (3, .int x3), (4, .int x4), (5, .long ((((((lsl x1 4)) ||| ((((4 * x4.toInt64)) + x3.toInt64)))) + 1))), (7, .int z1_7)] [.int ((mX m 15 z1_7.toNatClampNeg))] (m, S) (some (.int r0)) (mf, S)
      cases h
      exact rret rfl ⟨rfl, rfl, _, _, rfl, rfl, rfl, rfl⟩
    · rw [if_neg c3] at h
      refine rjt (a := (89, [(0, .ref 0), (1, .long x1), (3, .int x3), (4, .int x4), (5, .long ((((((lsl x1 4)) ||| ((((4 * x4.toInt64)) + x3.toInt64)))) + 1))), (7, .int z1_7)], [])) (b := (81, [(0, .ref 0), (1, .long x1), (3, .int x3), (4, .int x4), (5, .long ((((((lsl x1 4)) ||| ((((4 * x4.toInt64)) + x3.toInt64)))) + 1))), (7, .int z1_7)], [])) rfl rfl (fun q => c3 (lgc_eq.mp q)) ?_
      refine rsn 6 (t := (98, [(11, .int 0), (9, .long x1), (8, .int 0), (0, .ref 0), (1, .long x1), (3, .int x3), (4, .int x4), (5, .long ((((((lsl x1 4)) ||| ((((4 * x4.toInt64)) + x3.toInt64)))) + 1))), (7, .int z1_7)], [])) rfl ?_
      have ex98 : ∀ (z4_8 : Int32) (z4_9 : Int64) (z4_11 : Int32) (m4 : Mm), ((jn (fun (s5 : Int32) => f_Mo_ends_L195 N x1 x3 x4 ((((((lsl x1 4)) ||| ((((4 * x4.toInt64)) + x3.toInt64)))) + 1)) z1_7 z4_8 z4_9 s5 m4 (fun (z6_12 : Int32) (z6_13 : Int32) => (if 131072 ≤ ((mI m4 0 33)) then some (z6_12, m4) else ck (ix z1_7 262144) (ck (ix z1_7 262144) (some (z6_12, (vI (vX (vY m4 14 z1_7.toNatClampNeg ((((((lsl x1 4)) ||| ((((4 * x4.toInt64)) + x3.toInt64)))) + 1))) 15 z1_7.toNatClampNeg z6_12) 0 33 ((((mI m4 0 33)) + 1)))))))) N ((-2147483648)) 0) (fun j185 => if z4_8 = 0 then j185 1 else (if z4_8 = 1 then j185 3 else (if z4_8 = 2 then j185 9 else j185 27))))) = some (r0, mf) → RN xs L al (Ev xs L al d) 185 153 [(0, .ref 0), (1, .long x1), (3, .int x3), (4, .int x4), (5, .long ((((((lsl x1 4)) ||| ((((4 * x4.toInt64)) + x3.toInt64)))) + 1))), (7, .int z1_7), (8, .int z4_8), (9, .long z4_9)] [] (m4, S) (some (.int r0)) (mf, S) := by
        intro z4_8 z4_9 z4_11 m4 h
        try dsimp only at h
        refine rsn 1 (t := (155, [(0, .ref 0), (1, .long x1), (3, .int x3), (4, .int x4), (5, .long ((((((lsl x1 4)) ||| ((((4 * x4.toInt64)) + x3.toInt64)))) + 1))), (7, .int z1_7), (8, .int z4_8), (9, .long z4_9)], [.int z4_8])) rfl ?_
        have jp185 : ∀ (s5 : Int32), (f_Mo_ends_L195 N x1 x3 x4 ((((((lsl x1 4)) ||| ((((4 * x4.toInt64)) + x3.toInt64)))) + 1)) z1_7 z4_8 z4_9 s5 m4 (fun (z6_12 : Int32) (z6_13 : Int32) => (if 131072 ≤ ((mI m4 0 33)) then some (z6_12, m4) else ck (ix z1_7 262144) (ck (ix z1_7 262144) (some (z6_12, (vI (vX (vY m4 14 z1_7.toNatClampNeg ((((((lsl x1 4)) ||| ((((4 * x4.toInt64)) + x3.toInt64)))) + 1))) 15 z1_7.toNatClampNeg z6_12) 0 33 ((((mI m4 0 33)) + 1)))))))) N ((-2147483648)) 0) = some (r0, mf) → RN xs L al (Ev xs L al d) 185 185 [(0, .ref 0), (1, .long x1), (3, .int x3), (4, .int x4), (5, .long ((((((lsl x1 4)) ||| ((((4 * x4.toInt64)) + x3.toInt64)))) + 1))), (7, .int z1_7), (8, .int z4_8), (9, .long z4_9)] [.int s5] (m4, S) (some (.int r0)) (mf, S) := by
          intro s5 h
          try dsimp only at h
          refine rsn 5 (t := (195, [(13, .int 0), (12, .int ((-2147483648))), (11, .int s5), (0, .ref 0), (1, .long x1), (3, .int x3), (4, .int x4), (5, .long ((((((lsl x1 4)) ||| ((((4 * x4.toInt64)) + x3.toInt64)))) + 1))), (7, .int z1_7), (8, .int z4_8), (9, .long z4_9)], [])) rfl ?_
          have ex195 : ∀ (z6_12 : Int32) (z6_13 : Int32), ((if 131072 ≤ ((mI m4 0 33)) then some (z6_12, m4) else ck (ix z1_7 262144) (ck (ix z1_7 262144) (some (z6_12, (vI (vX (vY m4 14 z1_7.toNatClampNeg ((((((lsl x1 4)) ||| ((((4 * x4.toInt64)) + x3.toInt64)))) + 1))) 15 z1_7.toNatClampNeg z6_12) 0 33 ((((mI m4 0 33)) + 1)))))))) = some (r0, mf) → RN xs L al (Ev xs L al d) 185 318 [(0, .ref 0), (5, .long ((((((lsl x1 4)) ||| ((((4 * x4.toInt64)) + x3.toInt64)))) + 1))), (7, .int z1_7), (12, .int z6_12)] [] (m4, S) (some (.int r0)) (mf, S) := by
            intro z6_12 z6_13 h
            try dsimp only at h
            refine rsn 1 (t := (319, [(0, .ref 0), (5, .long ((((((lsl x1 4)) ||| ((((4 * x4.toInt64)) + x3.toInt64)))) + 1))), (7, .int z1_7), (12, .int z6_12)], [.ref 0])) rfl ?_
            refine pgI rfl rfl rfl (hSh.k 0 rfl _) ?_
            show RN xs L al (Ev xs L al d) 185 322 [(0, .ref 0), (5, .long ((((((lsl x1 4)) ||| ((((4 * x4.toInt64)) + x3.toInt64)))) + 1))), (7, .int z1_7), (12, .int z6_12)] [.int ((mI m4 0 33))] (m4, S) (some (.int r0)) (mf, S)
            refine rsn 1 (t := (325, [(0, .ref 0), (5, .long ((((((lsl x1 4)) ||| ((((4 * x4.toInt64)) + x3.toInt64)))) + 1))), (7, .int z1_7), (12, .int z6_12)], [.int 131072, .int ((mI m4 0 33))])) rfl ?_
            by_cases c7 : 131072 ≤ ((mI m4 0 33))
            · rw [if_pos c7] at h
              refine rjt (a := (356, [(0, .ref 0), (5, .long ((((((lsl x1 4)) ||| ((((4 * x4.toInt64)) + x3.toInt64)))) + 1))), (7, .int z1_7), (12, .int z6_12)], [])) (b := (328, [(0, .ref 0), (5, .long ((((((lsl x1 4)) ||| ((((4 * x4.toInt64)) + x3.toInt64)))) + 1))), (7, .int z1_7), (12, .int z6_12)], [])) rfl rfl c7 ?_
              refine rsn 1 (t := (358, [(0, .ref 0), (5, .long ((((((lsl x1 4)) ||| ((((4 * x4.toInt64)) + x3.toInt64)))) + 1))), (7, .int z1_7), (12, .int z6_12)], [.int z6_12])) rfl ?_
              cases h
              exact rret rfl ⟨rfl, rfl, _, _, rfl, rfl, rfl, rfl⟩
            · rw [if_neg c7] at h
              refine rjf (a := (356, [(0, .ref 0), (5, .long ((((((lsl x1 4)) ||| ((((4 * x4.toInt64)) + x3.toInt64)))) + 1))), (7, .int z1_7), (12, .int z6_12)], [])) (b := (328, [(0, .ref 0), (5, .long ((((((lsl x1 4)) ||| ((((4 * x4.toInt64)) + x3.toInt64)))) + 1))), (7, .int z1_7), (12, .int z6_12)], [])) rfl rfl c7 ?_
              refine rsn 1 (t := (329, [(0, .ref 0), (5, .long ((((((lsl x1 4)) ||| ((((4 * x4.toInt64)) + x3.toInt64)))) + 1))), (7, .int z1_7), (12, .int z6_12)], [.ref 0])) rfl ?_
              refine rgR rfl rfl rfl (hSh.k 0 rfl _) (hSh.r 13 rfl _) ?_
              refine rsn 2 (t := (336, [(0, .ref 0), (5, .long ((((((lsl x1 4)) ||| ((((4 * x4.toInt64)) + x3.toInt64)))) + 1))), (7, .int z1_7), (12, .int z6_12)], [.long ((((((lsl x1 4)) ||| ((((4 * x4.toInt64)) + x3.toInt64)))) + 1)), .int z1_7, .ref 14])) rfl ?_
              obtain ⟨c8, h⟩ := ck_some h
              refine psJ rfl (hSh.k 14 rfl _) (hSh.l 13 rfl _) c8 ?_
              refine rsn 1 (t := (338, [(0, .ref 0), (5, .long ((((((lsl x1 4)) ||| ((((4 * x4.toInt64)) + x3.toInt64)))) + 1))), (7, .int z1_7), (12, .int z6_12)], [.ref 0])) rfl ?_
              refine rgR rfl rfl rfl (hSh.k 0 rfl _) (hSh.r 14 rfl _) ?_
              refine rsn 2 (t := (345, [(0, .ref 0), (5, .long ((((((lsl x1 4)) ||| ((((4 * x4.toInt64)) + x3.toInt64)))) + 1))), (7, .int z1_7), (12, .int z6_12)], [.int z6_12, .int z1_7, .ref 15])) rfl ?_
              obtain ⟨c9, h⟩ := ck_some h
              refine psI rfl (hSh.k 15 rfl _) (hSh.l 14 rfl _) c9 ?_
              refine rsn 2 (t := (348, [(0, .ref 0), (5, .long ((((((lsl x1 4)) ||| ((((4 * x4.toInt64)) + x3.toInt64)))) + 1))), (7, .int z1_7), (12, .int z6_12)], [.ref 0, .ref 0])) rfl ?_
              refine pgI rfl rfl rfl (hSh.k 0 rfl _) ?_
              show RN xs L al (Ev xs L al d) 185 351 [(0, .ref 0), (5, .long ((((((lsl x1 4)) ||| ((((4 * x4.toInt64)) + x3.toInt64)))) + 1))), (7, .int z1_7), (12, .int z6_12)] [.int ((mI m4 0 33)), .ref 0] ((vX (vY m4 14 z1_7.toNatClampNeg ((((((lsl x1 4)) ||| ((((4 * x4.toInt64)) + x3.toInt64)))) + 1))) 15 z1_7.toNatClampNeg z6_12), S) (some (.int r0)) (mf, S)
              refine rsn 2 (t := (353, [(0, .ref 0), (5, .long ((((((lsl x1 4)) ||| ((((4 * x4.toInt64)) + x3.toInt64)))) + 1))), (7, .int z1_7), (12, .int z6_12)], [.int ((((mI m4 0 33)) + 1)), .ref 0])) rfl ?_
              refine ppI rfl rfl rfl rfl (hSh.k 0 rfl _) ?_
              refine rsn 1 (t := (358, [(0, .ref 0), (5, .long ((((((lsl x1 4)) ||| ((((4 * x4.toInt64)) + x3.toInt64)))) + 1))), (7, .int z1_7), (12, .int z6_12)], [.int z6_12])) rfl ?_
              cases h
              exact rret rfl ⟨rfl, rfl, _, _, rfl, rfl, rfl, rfl⟩
          have lp195 : ∀ (n : Nat) (y10_12 : Int32) (y10_13 : Int32), (f_Mo_ends_L195 N x1 x3 x4 ((((((lsl x1 4)) ||| ((((4 * x4.toInt64)) + x3.toInt64)))) + 1)) z1_7 z4_8 z4_9 s5 m4 (fun (z6_12 : Int32) (z6_13 : Int32) => (if 131072 ≤ ((mI m4 0 33)) then some (z6_12, m4) else ck (ix z1_7 262144) (ck (ix z1_7 262144) (some (z6_12, (vI (vX (vY m4 14 z1_7.toNatClampNeg ((((((lsl x1 4)) ||| ((((4 * x4.toInt64)) + x3.toInt64)))) + 1))) 15 z1_7.toNatClampNeg z6_12) 0 33 ((((mI m4 0 33)) + 1)))))))) n y10_12 y10_13) = some (r0, mf) → RN xs L al (Ev xs L al d) 185 195 [(0, .ref 0), (1, .long x1), (3, .int x3), (4, .int x4), (5, .long ((((((lsl x1 4)) ||| ((((4 * x4.toInt64)) + x3.toInt64)))) + 1))), (7, .int z1_7), (8, .int z4_8), (9, .long z4_9), (11, .int s5), (12, .int y10_12), (13, .int y10_13)] [] (m4, S) (some (.int r0)) (mf, S) := by
            intro n
            induction n with
            | zero => intro y10_12 y10_13 h; exact absurd h (by simp [f_Mo_ends_L195])
            | succ n195 ih195 =>
              intro y10_12 y10_13 h
              try dsimp only at h
              rw [f_Mo_ends_L195] at h
              try dsimp only at h
              exact rsub [(0, .ref 0), (1, .long x1), (3, .int x3), (4, .int x4), (5, .long ((((((lsl x1 4)) ||| ((((4 * x4.toInt64)) + x3.toInt64)))) + 1))), (7, .int z1_7), (8, .int z4_8), (9, .long z4_9), (11, .int s5), (12, .int y10_12), (13, .int y10_13)] ⟨rfl, ⟨rfl, ⟨rfl, ⟨rfl, ⟨rfl, ⟨rfl, ⟨rfl, ⟨rfl, ⟨rfl, ⟨rfl, ⟨rfl, trivial⟩⟩⟩⟩⟩⟩⟩⟩⟩⟩⟩ ⟨rfl, ⟨rfl, ⟨rfl, ⟨rfl, ⟨rfl, ⟨rfl, ⟨rfl, ⟨rfl, ⟨rfl, ⟨rfl, ⟨rfl, trivial⟩⟩⟩⟩⟩⟩⟩⟩⟩⟩⟩ (ih195 y10_12 y10_13 h)
          exact rsub [(0, .ref 0), (1, .long x1), (3, .int x3), (4, .int x4), (5, .long ((((((lsl x1 4)) ||| ((((4 * x4.toInt64)) + x3.toInt64)))) + 1))), (7, .int z1_7), (8, .int z4_8), (9, .long z4_9), (11, .int s5), (12, .int ((-2147483648))), (13, .int 0)] ⟨rfl, ⟨rfl, ⟨rfl, ⟨rfl, ⟨rfl, ⟨rfl, ⟨rfl, ⟨rfl, ⟨rfl, ⟨rfl, ⟨rfl, trivial⟩⟩⟩⟩⟩⟩⟩⟩⟩⟩⟩ ⟨rfl, ⟨rfl, ⟨rfl, ⟨rfl, ⟨rfl, ⟨rfl, ⟨rfl, ⟨rfl, ⟨rfl, ⟨rfl, ⟨rfl, trivial⟩⟩⟩⟩⟩⟩⟩⟩⟩⟩⟩ (lp195 N ((-2147483648)) 0 h)
        rw [jn] at h
        try dsimp only at h
        by_cases c11 : z4_8 = 0
        · rw [if_pos c11] at h
          refine rjf (a := (162, [(0, .ref 0), (1, .long x1), (3, .int x3), (4, .int x4), (5, .long ((((((lsl x1 4)) ||| ((((4 * x4.toInt64)) + x3.toInt64)))) + 1))), (7, .int z1_7), (8, .int z4_8), (9, .long z4_9)], [])) (b := (158, [(0, .ref 0), (1, .long x1), (3, .int x3), (4, .int x4), (5, .long ((((((lsl x1 4)) ||| ((((4 * x4.toInt64)) + x3.toInt64)))) + 1))), (7, .int z1_7), (8, .int z4_8), (9, .long z4_9)], [])) rfl rfl (fun q => q c11) ?_
          refine rsn 2 (t := (185, [(0, .ref 0), (1, .long x1), (3, .int x3), (4, .int x4), (5, .long ((((((lsl x1 4)) ||| ((((4 * x4.toInt64)) + x3.toInt64)))) + 1))), (7, .int z1_7), (8, .int z4_8), (9, .long z4_9)], [.int 1])) rfl ?_
          exact rsub [(0, .ref 0), (1, .long x1), (3, .int x3), (4, .int x4), (5, .long ((((((lsl x1 4)) ||| ((((4 * x4.toInt64)) + x3.toInt64)))) + 1))), (7, .int z1_7), (8, .int z4_8), (9, .long z4_9)] ⟨rfl, ⟨rfl, ⟨rfl, ⟨rfl, ⟨rfl, ⟨rfl, ⟨rfl, ⟨rfl, trivial⟩⟩⟩⟩⟩⟩⟩⟩ ⟨rfl, ⟨rfl, ⟨rfl, ⟨rfl, ⟨rfl, ⟨rfl, ⟨rfl, ⟨rfl, trivial⟩⟩⟩⟩⟩⟩⟩⟩ (jp185 1 h)
        · rw [if_neg c11] at h
          refine rjt (a := (162, [(0, .ref 0), (1, .long x1), (3, .int x3), (4, .int x4), (5, .long ((((((lsl x1 4)) ||| ((((4 * x4.toInt64)) + x3.toInt64)))) + 1))), (7, .int z1_7), (8, .int z4_8), (9, .long z4_9)], [])) (b := (158, [(0, .ref 0), (1, .long x1), (3, .int x3), (4, .int x4), (5, .long ((((((lsl x1 4)) ||| ((((4 * x4.toInt64)) + x3.toInt64)))) + 1))), (7, .int z1_7), (8, .int z4_8), (9, .long z4_9)], [])) rfl rfl c11 ?_
          refine rsn 2 (t := (165, [(0, .ref 0), (1, .long x1), (3, .int x3), (4, .int x4), (5, .long ((((((lsl x1 4)) ||| ((((4 * x4.toInt64)) + x3.toInt64)))) + 1))), (7, .int z1_7), (8, .int z4_8), (9, .long z4_9)], [.int 1, .int z4_8])) rfl ?_
          by_cases c12 : z4_8 = 1
          · rw [if_pos c12] at h
            refine rjf (a := (172, [(0, .ref 0), (1, .long x1), (3, .int x3), (4, .int x4), (5, .long ((((((lsl x1 4)) ||| ((((4 * x4.toInt64)) + x3.toInt64)))) + 1))), (7, .int z1_7), (8, .int z4_8), (9, .long z4_9)], [])) (b := (168, [(0, .ref 0), (1, .long x1), (3, .int x3), (4, .int x4), (5, .long ((((((lsl x1 4)) ||| ((((4 * x4.toInt64)) + x3.toInt64)))) + 1))), (7, .int z1_7), (8, .int z4_8), (9, .long z4_9)], [])) rfl rfl (fun q => q c12) ?_
            refine rsn 2 (t := (185, [(0, .ref 0), (1, .long x1), (3, .int x3), (4, .int x4), (5, .long ((((((lsl x1 4)) ||| ((((4 * x4.toInt64)) + x3.toInt64)))) + 1))), (7, .int z1_7), (8, .int z4_8), (9, .long z4_9)], [.int 3])) rfl ?_
            exact rsub [(0, .ref 0), (1, .long x1), (3, .int x3), (4, .int x4), (5, .long ((((((lsl x1 4)) ||| ((((4 * x4.toInt64)) + x3.toInt64)))) + 1))), (7, .int z1_7), (8, .int z4_8), (9, .long z4_9)] ⟨rfl, ⟨rfl, ⟨rfl, ⟨rfl, ⟨rfl, ⟨rfl, ⟨rfl, ⟨rfl, trivial⟩⟩⟩⟩⟩⟩⟩⟩ ⟨rfl, ⟨rfl, ⟨rfl, ⟨rfl, ⟨rfl, ⟨rfl, ⟨rfl, ⟨rfl, trivial⟩⟩⟩⟩⟩⟩⟩⟩ (jp185 3 h)
          · rw [if_neg c12] at h
            refine rjt (a := (172, [(0, .ref 0), (1, .long x1), (3, .int x3), (4, .int x4), (5, .long ((((((lsl x1 4)) ||| ((((4 * x4.toInt64)) + x3.toInt64)))) + 1))), (7, .int z1_7), (8, .int z4_8), (9, .long z4_9)], [])) (b := (168, [(0, .ref 0), (1, .long x1), (3, .int x3), (4, .int x4), (5, .long ((((((lsl x1 4)) ||| ((((4 * x4.toInt64)) + x3.toInt64)))) + 1))), (7, .int z1_7), (8, .int z4_8), (9, .long z4_9)], [])) rfl rfl c12 ?_
            refine rsn 2 (t := (175, [(0, .ref 0), (1, .long x1), (3, .int x3), (4, .int x4), (5, .long ((((((lsl x1 4)) ||| ((((4 * x4.toInt64)) + x3.toInt64)))) + 1))), (7, .int z1_7), (8, .int z4_8), (9, .long z4_9)], [.int 2, .int z4_8])) rfl ?_
            by_cases c13 : z4_8 = 2
            · rw [if_pos c13] at h
              refine rjf (a := (183, [(0, .ref 0), (1, .long x1), (3, .int x3), (4, .int x4), (5, .long ((((((lsl x1 4)) ||| ((((4 * x4.toInt64)) + x3.toInt64)))) + 1))), (7, .int z1_7), (8, .int z4_8), (9, .long z4_9)], [])) (b := (178, [(0, .ref 0), (1, .long x1), (3, .int x3), (4, .int x4), (5, .long ((((((lsl x1 4)) ||| ((((4 * x4.toInt64)) + x3.toInt64)))) + 1))), (7, .int z1_7), (8, .int z4_8), (9, .long z4_9)], [])) rfl rfl (fun q => q c13) ?_
              refine rsn 2 (t := (185, [(0, .ref 0), (1, .long x1), (3, .int x3), (4, .int x4), (5, .long ((((((lsl x1 4)) ||| ((((4 * x4.toInt64)) + x3.toInt64)))) + 1))), (7, .int z1_7), (8, .int z4_8), (9, .long z4_9)], [.int 9])) rfl ?_
              exact rsub [(0, .ref 0), (1, .long x1), (3, .int x3), (4, .int x4), (5, .long ((((((lsl x1 4)) ||| ((((4 * x4.toInt64)) + x3.toInt64)))) + 1))), (7, .int z1_7), (8, .int z4_8), (9, .long z4_9)] ⟨rfl, ⟨rfl, ⟨rfl, ⟨rfl, ⟨rfl, ⟨rfl, ⟨rfl, ⟨rfl, trivial⟩⟩⟩⟩⟩⟩⟩⟩ ⟨rfl, ⟨rfl, ⟨rfl, ⟨rfl, ⟨rfl, ⟨rfl, ⟨rfl, ⟨rfl, trivial⟩⟩⟩⟩⟩⟩⟩⟩ (jp185 9 h)
            · rw [if_neg c13] at h
              refine rjt (a := (183, [(0, .ref 0), (1, .long x1), (3, .int x3), (4, .int x4), (5, .long ((((((lsl x1 4)) ||| ((((4 * x4.toInt64)) + x3.toInt64)))) + 1))), (7, .int z1_7), (8, .int z4_8), (9, .long z4_9)], [])) (b := (178, [(0, .ref 0), (1, .long x1), (3, .int x3), (4, .int x4), (5, .long ((((((lsl x1 4)) ||| ((((4 * x4.toInt64)) + x3.toInt64)))) + 1))), (7, .int z1_7), (8, .int z4_8), (9, .long z4_9)], [])) rfl rfl c13 ?_
              refine rsn 1 (t := (185, [(0, .ref 0), (1, .long x1), (3, .int x3), (4, .int x4), (5, .long ((((((lsl x1 4)) ||| ((((4 * x4.toInt64)) + x3.toInt64)))) + 1))), (7, .int z1_7), (8, .int z4_8), (9, .long z4_9)], [.int 27])) rfl ?_
              exact rsub [(0, .ref 0), (1, .long x1), (3, .int x3), (4, .int x4), (5, .long ((((((lsl x1 4)) ||| ((((4 * x4.toInt64)) + x3.toInt64)))) + 1))), (7, .int z1_7), (8, .int z4_8), (9, .long z4_9)] ⟨rfl, ⟨rfl, ⟨rfl, ⟨rfl, ⟨rfl, ⟨rfl, ⟨rfl, ⟨rfl, trivial⟩⟩⟩⟩⟩⟩⟩⟩ ⟨rfl, ⟨rfl, ⟨rfl, ⟨rfl, ⟨rfl, ⟨rfl, ⟨rfl, ⟨rfl, trivial⟩⟩⟩⟩⟩⟩⟩⟩ (jp185 27 h)
      have lp98 : ∀ (n : Nat) (y14_8 : Int32) (y14_9 : Int64) (y14_11 : Int32) (m14 : Mm), (f_Mo_ends_L98 N x1 x3 x4 ((((((lsl x1 4)) ||| ((((4 * x4.toInt64)) + x3.toInt64)))) + 1)) z1_7 (fun (z4_8 : Int32) (z4_9 : Int64) (z4_11 : Int32) (m4 : Mm) => (jn (fun (s5 : Int32) => f_Mo_ends_L195 N x1 x3 x4 ((((((lsl x1 4)) ||| ((((4 * x4.toInt64)) + x3.toInt64)))) + 1)) z1_7 z4_8 z4_9 s5 m4 (fun (z6_12 : Int32) (z6_13 : Int32) => (if 131072 ≤ ((mI m4 0 33)) then some (z6_12, m4) else ck (ix z1_7 262144) (ck (ix z1_7 262144) (some (z6_12, (vI (vX (vY m4 14 z1_7.toNatClampNeg ((((((lsl x1 4)) ||| ((((4 * x4.toInt64)) + x3.toInt64)))) + 1))) 15 z1_7.toNatClampNeg z6_12) 0 33 ((((mI m4 0 33)) + 1)))))))) N ((-2147483648)) 0) (fun j185 => if z4_8 = 0 then j185 1 else (if z4_8 = 1 then j185 3 else (if z4_8 = 2 then j185 9 else j185 27))))) n y14_8 y14_9 y14_11 m14) = some (r0, mf) → RN xs L al (Ev xs L al d) 185 98 [(0, .ref 0), (1, .long x1), (3, .int x3), (4, .int x4), (5, .long ((((((lsl x1 4)) ||| ((((4 * x4.toInt64)) + x3.toInt64)))) + 1))), (7, .int z1_7), (8, .int y14_8), (9, .long y14_9), (11, .int y14_11)] [] (m14, S) (some (.int r0)) (mf, S) := by
        intro n
        induction n with
        | zero => intro y14_8 y14_9 y14_11 m14 h; exact absurd h (by simp [f_Mo_ends_L98])
        | succ n98 ih98 =>
          intro y14_8 y14_9 y14_11 m14 h
          try dsimp only at h
          rw [f_Mo_ends_L98] at h
          try dsimp only at h
          exact rsub [(0, .ref 0), (1, .long x1), (3, .int x3), (4, .int x4), (5, .long ((((((lsl x1 4)) ||| ((((4 * x4.toInt64)) + x3.toInt64)))) + 1))), (7, .int z1_7), (8, .int y14_8), (9, .long y14_9), (11, .int y14_11)] ⟨rfl, ⟨rfl, ⟨rfl, ⟨rfl, ⟨rfl, ⟨rfl, ⟨rfl, ⟨rfl, ⟨rfl, trivial⟩⟩⟩⟩⟩⟩⟩⟩⟩ ⟨rfl, ⟨rfl, ⟨rfl, ⟨rfl, ⟨rfl, ⟨rfl, ⟨rfl, ⟨rfl, ⟨rfl, trivial⟩⟩⟩⟩⟩⟩⟩⟩⟩ (ih98 y14_8 y14_9 y14_11 m14 h)
      exact rsub [(0, .ref 0), (1, .long x1), (3, .int x3), (4, .int x4), (5, .long ((((((lsl x1 4)) ||| ((((4 * x4.toInt64)) + x3.toInt64)))) + 1))), (7, .int z1_7), (8, .int 0), (9, .long x1), (11, .int 0)] ⟨rfl, ⟨rfl, ⟨rfl, ⟨rfl, ⟨rfl, ⟨rfl, ⟨rfl, ⟨rfl, ⟨rfl, trivial⟩⟩⟩⟩⟩⟩⟩⟩⟩ ⟨rfl, ⟨rfl, ⟨rfl, ⟨rfl, ⟨rfl, ⟨rfl, ⟨rfl, ⟨rfl, ⟨rfl, trivial⟩⟩⟩⟩⟩⟩⟩⟩⟩ (lp98 N 0 x1 0 m h)
  have lp30 : ∀ (n : Nat) (y16_7 : Int32), (f_Mo_ends_L30 N x1 x3 x4 ((((((lsl x1 4)) ||| ((((4 * x4.toInt64)) + x3.toInt64)))) + 1)) m (fun (z1_7 : Int32) => ck (ix z1_7 262144) ((if ((mYy m 14 z1_7.toNatClampNeg)) = ((((((lsl x1 4)) ||| ((((4 * x4.toInt64)) + x3.toInt64)))) + 1)) then ck (ix z1_7 262144) (some ((mX m 15 z1_7.toNatClampNeg), m)) else f_Mo_ends_L98 N x1 x3 x4 ((((((lsl x1 4)) ||| ((((4 * x4.toInt64)) + x3.toInt64)))) + 1)) z1_7 (fun (z4_8 : Int32) (z4_9 : Int64) (z4_11 : Int32) (m4 : Mm) => (jn (fun (s5 : Int32) => f_Mo_ends_L195 N x1 x3 x4 ((((((lsl x1 4)) ||| ((((4 * x4.toInt64)) + x3.toInt64)))) + 1)) z1_7 z4_8 z4_9 s5 m4 (fun (z6_12 : Int32) (z6_13 : Int32) => (if 131072 ≤ ((mI m4 0 33)) then some (z6_12, m4) else ck (ix z1_7 262144) (ck (ix z1_7 262144) (some (z6_12, (vI (vX (vY m4 14 z1_7.toNatClampNeg ((((((lsl x1 4)) ||| ((((4 * x4.toInt64)) + x3.toInt64)))) + 1))) 15 z1_7.toNatClampNeg z6_12) 0 33 ((((mI m4 0 33)) + 1)))))))) N ((-2147483648)) 0) (fun j185 => if z4_8 = 0 then j185 1 else (if z4_8 = 1 then j185 3 else (if z4_8 = 2 then j185 9 else j185 27))))) N 0 x1 0 m))) n y16_7) = some (r0, mf) → RN xs L al (Ev xs L al d) 185 30 [(0, .ref 0), (1, .long x1), (3, .int x3), (4, .int x4), (5, .long ((((((lsl x1 4)) ||| ((((4 * x4.toInt64)) + x3.toInt64)))) + 1))), (7, .int y16_7)] [] (m, S) (some (.int r0)) (mf, S) := by
    intro n
    induction n with
    | zero => intro y16_7 h; exact absurd h (by simp [f_Mo_ends_L30])
    | succ n30 ih30 =>
      intro y16_7 h
      try dsimp only at h
      rw [f_Mo_ends_L30] at h
      try dsimp only at h
      exact rsub [(0, .ref 0), (1, .long x1), (3, .int x3), (4, .int x4), (5, .long ((((((lsl x1 4)) ||| ((((4 * x4.toInt64)) + x3.toInt64)))) + 1))), (7, .int y16_7)] ⟨rfl, ⟨rfl, ⟨rfl, ⟨rfl, ⟨rfl, ⟨rfl, trivial⟩⟩⟩⟩⟩⟩ ⟨rfl, ⟨rfl, ⟨rfl, ⟨rfl, ⟨rfl, ⟨rfl, trivial⟩⟩⟩⟩⟩⟩ (ih30 y16_7 h)
  exact rsub [(0, .ref 0), (1, .long x1), (3, .int x3), (4, .int x4), (5, .long ((((((lsl x1 4)) ||| ((((4 * x4.toInt64)) + x3.toInt64)))) + 1))), (7, .int (((lus ((((((((lsl x1 4)) ||| ((((4 * x4.toInt64)) + x3.toInt64)))) + 1)) * ((-7046029254386353131)))) 46)).toInt32))] ⟨rfl, ⟨rfl, ⟨rfl, ⟨rfl, ⟨rfl, ⟨rfl, trivial⟩⟩⟩⟩⟩⟩ ⟨rfl, ⟨rfl, ⟨rfl, ⟨rfl, ⟨rfl, ⟨rfl, trivial⟩⟩⟩⟩⟩⟩ (lp30 N (((lus ((((((((lsl x1 4)) ||| ((((4 * x4.toInt64)) + x3.toInt64)))) + 1)) * ((-7046029254386353131)))) 46)).toInt32) h)
def f_Mo_reached (N : Nat) (x1 : Int32) (m : Mm) : Option (Int32 × Mm) := (if ((mI m 0 15)) = 0 then some ((-2147483648), m) else b1 (f_Mo_isGoal N x1) fun r2 => (if r2 = 0 then some ((-2147483648), m) else (if ((mI m 0 25)) = ((-1)) then (if ((mI m 0 24)) = ((mI m 0 18)) then b2 (f_Mo_ends N ((mJ m 0 23)) x1 ((mI m 0 22)) m) fun r6 m6 => some (r6, m6) else some ((-2147483648), m)) else some ((-2147483648), m))))
set_option maxRecDepth 20000 in
set_option maxHeartbeats 4000000 in
theorem e_Mo_reached {xs : Nat → Int32} {L : Nat} {al : Bool} (N : Nat) {d : Nat} (hd : 8 ≤ d) {S : St} (hSh : ShR S) {x1 : Int32} {m : Mm} {r0 : Int32} {mf : Mm} (h : f_Mo_reached N x1 m = some (r0, mf)) : Ev xs L al d 183 [.ref 0, .int x1] (m, S) (some (.int r0)) (mf, S) := by
  obtain ⟨d, rfl⟩ : ∃ e, d = e + 1 := ⟨d - 1, by omega⟩
  refine ev_of (by decide) (Nat.le_of_ble_eq_true rfl) ?_
  rw [f_Mo_reached] at h
  show RN xs L al (Ev xs L al d) 183 0 [(0, .ref 0), (1, .int x1)] [] (m, S) (some (.int r0)) (mf, S)
  refine rsn 1 (t := (1, [(0, .ref 0), (1, .int x1)], [.ref 0])) rfl ?_
  refine pgI rfl rfl rfl (hSh.k 0 rfl _) ?_
  show RN xs L al (Ev xs L al d) 183 4 [(0, .ref 0), (1, .int x1)] [.int ((mI m 0 15))] (m, S) (some (.int r0)) (mf, S)
  by_cases c1 : ((mI m 0 15)) = 0
  · rw [if_pos c1] at h
    refine rjt (a := (49, [(0, .ref 0), (1, .int x1)], [])) (b := (7, [(0, .ref 0), (1, .int x1)], [])) rfl rfl c1 ?_
    refine rsn 1 (t := (52, [(0, .ref 0), (1, .int x1)], [.int ((-2147483648))])) rfl ?_
    cases h
    exact rret rfl ⟨rfl, rfl, _, _, rfl, rfl, rfl, rfl⟩
  · rw [if_neg c1] at h
    refine rjf (a := (49, [(0, .ref 0), (1, .int x1)], [])) (b := (7, [(0, .ref 0), (1, .int x1)], [])) rfl rfl c1 ?_
    refine rsn 1 (t := (8, [(0, .ref 0), (1, .int x1)], [.int x1])) rfl ?_
    obtain ⟨r2, g2, h⟩ := b1_some h
    refine rcS 184 [.int x1] rfl rfl rfl (Nat.le_of_ble_eq_true rfl) rfl (e_Mo_isGoal N (by omega) g2) ?_
    show RN xs L al (Ev xs L al d) 183 11 [(0, .ref 0), (1, .int x1)] [.int r2] (m, S) (some (.int r0)) (mf, S)
    by_cases c3 : r2 = 0
    · rw [if_pos c3] at h
      refine rjt (a := (49, [(0, .ref 0), (1, .int x1)], [])) (b := (14, [(0, .ref 0), (1, .int x1)], [])) rfl rfl c3 ?_
      refine rsn 1 (t := (52, [(0, .ref 0), (1, .int x1)], [.int ((-2147483648))])) rfl ?_
      cases h
      exact rret rfl ⟨rfl, rfl, _, _, rfl, rfl, rfl, rfl⟩
    · rw [if_neg c3] at h
      refine rjf (a := (49, [(0, .ref 0), (1, .int x1)], [])) (b := (14, [(0, .ref 0), (1, .int x1)], [])) rfl rfl c3 ?_
      refine rsn 1 (t := (15, [(0, .ref 0), (1, .int x1)], [.ref 0])) rfl ?_
      refine pgI rfl rfl rfl (hSh.k 0 rfl _) ?_
      show RN xs L al (Ev xs L al d) 183 18 [(0, .ref 0), (1, .int x1)] [.int ((mI m 0 25))] (m, S) (some (.int r0)) (mf, S)
      refine rsn 1 (t := (19, [(0, .ref 0), (1, .int x1)], [.int ((-1)), .int ((mI m 0 25))])) rfl ?_
      by_cases c4 : ((mI m 0 25)) = ((-1))
      · rw [if_pos c4] at h
        refine rjf (a := (49, [(0, .ref 0), (1, .int x1)], [])) (b := (22, [(0, .ref 0), (1, .int x1)], [])) rfl rfl (fun q => q c4) ?_
        refine rsn 1 (t := (23, [(0, .ref 0), (1, .int x1)], [.ref 0])) rfl ?_
        refine pgI rfl rfl rfl (hSh.k 0 rfl _) ?_
        show RN xs L al (Ev xs L al d) 183 26 [(0, .ref 0), (1, .int x1)] [.int ((mI m 0 24))] (m, S) (some (.int r0)) (mf, S)
        refine rsn 1 (t := (27, [(0, .ref 0), (1, .int x1)], [.ref 0, .int ((mI m 0 24))])) rfl ?_
        refine pgI rfl rfl rfl (hSh.k 0 rfl _) ?_
        show RN xs L al (Ev xs L al d) 183 30 [(0, .ref 0), (1, .int x1)] [.int ((mI m 0 18)), .int ((mI m 0 24))] (m, S) (some (.int r0)) (mf, S)
        by_cases c5 : ((mI m 0 24)) = ((mI m 0 18))
        · rw [if_pos c5] at h
          refine rjf (a := (49, [(0, .ref 0), (1, .int x1)], [])) (b := (33, [(0, .ref 0), (1, .int x1)], [])) rfl rfl (fun q => q c5) ?_
          refine rsn 2 (t := (35, [(0, .ref 0), (1, .int x1)], [.ref 0, .ref 0])) rfl ?_
          refine pgJ rfl rfl rfl (hSh.k 0 rfl _) ?_
          show RN xs L al (Ev xs L al d) 183 38 [(0, .ref 0), (1, .int x1)] [.long ((mJ m 0 23)), .ref 0] (m, S) (some (.int r0)) (mf, S)
          refine rsn 2 (t := (40, [(0, .ref 0), (1, .int x1)], [.ref 0, .int x1, .long ((mJ m 0 23)), .ref 0])) rfl ?_
          refine pgI rfl rfl rfl (hSh.k 0 rfl _) ?_
          show RN xs L al (Ev xs L al d) 183 43 [(0, .ref 0), (1, .int x1)] [.int ((mI m 0 22)), .int x1, .long ((mJ m 0 23)), .ref 0] (m, S) (some (.int r0)) (mf, S)
          obtain ⟨r6, m6, g6, h⟩ := b2_some h
          refine rcV 185 0 [.long ((mJ m 0 23)), .int x1, .int ((mI m 0 22))] rfl rfl rfl (hSh.k 0 rfl _) (Nat.le_of_ble_eq_true rfl) rfl (e_Mo_ends N (by omega) hSh g6) ?_
          show RN xs L al (Ev xs L al d) 183 46 [(0, .ref 0), (1, .int x1)] [.int r6] (m6, S) (some (.int r0)) (mf, S)
          refine rsn 1 (t := (52, [(0, .ref 0), (1, .int x1)], [.int r6])) rfl ?_
          cases h
          exact rret rfl ⟨rfl, rfl, _, _, rfl, rfl, rfl, rfl⟩
        · rw [if_neg c5] at h
          refine rjt (a := (49, [(0, .ref 0), (1, .int x1)], [])) (b := (33, [(0, .ref 0), (1, .int x1)], [])) rfl rfl c5 ?_
          refine rsn 1 (t := (52, [(0, .ref 0), (1, .int x1)], [.int ((-2147483648))])) rfl ?_
          cases h
          exact rret rfl ⟨rfl, rfl, _, _, rfl, rfl, rfl, rfl⟩
      · rw [if_neg c4] at h
        refine rjt (a := (49, [(0, .ref 0), (1, .int x1)], [])) (b := (22, [(0, .ref 0), (1, .int x1)], [])) rfl rfl c4 ?_
        refine rsn 1 (t := (52, [(0, .ref 0), (1, .int x1)], [.int ((-2147483648))])) rfl ?_
        cases h
        exact rret rfl ⟨rfl, rfl, _, _, rfl, rfl, rfl, rfl⟩
def f_Mo_placeOf_L20 (N : Nat) (x1 : Int64) (x3 : Int32) (x4 : Int32) (m : Mm) (k20 : Int32 → Option (Int32)) : Nat → Int32 → Option (Int32)
  | 0, _ => none
  | n20 + 1, x5 => f_Mo_placeOf_L20 N x1 x3 x4 m k20 n20 x5
def f_Mo_placeOf (N : Nat) (x1 : Int64) (x3 : Int32) (x4 : Int32) (m : Mm) : Option (Int32) := f_Mo_placeOf_L20 N x1 x3 x4 m (fun (z1_5 : Int32) => some z1_5) N (((lus ((((((((x1 * 31)) + x3.toInt64)) + 1)) * ((-7046029254386353131)))) 45)).toInt32)
set_option maxRecDepth 20000 in
set_option maxHeartbeats 4000000 in
theorem e_Mo_placeOf {xs : Nat → Int32} {L : Nat} {al : Bool} (N : Nat) {d : Nat} (hd : 1 ≤ d) {S : St} (hSh : ShR S) {x1 : Int64} {x3 : Int32} {x4 : Int32} {m : Mm} {r0 : Int32} (h : f_Mo_placeOf N x1 x3 x4 m = some r0) : Ev xs L al d 196 [.ref 0, .long x1, .int x3, .int x4] (m, S) (some (.int r0)) (m, S) := by
  obtain ⟨d, rfl⟩ : ∃ e, d = e + 1 := ⟨d - 1, by omega⟩
  refine ev_of (by decide) (Nat.le_of_ble_eq_true rfl) ?_
  rw [f_Mo_placeOf] at h
  show RN xs L al (Ev xs L al d) 196 0 [(0, .ref 0), (1, .long x1), (3, .int x3), (4, .int x4)] [] (m, S) (some (.int r0)) (m, S)
  refine rsn 14 (t := (20, [(5, .int (((lus ((((((((x1 * 31)) + x3.toInt64)) + 1)) * ((-7046029254386353131)))) 45)).toInt32)), (0, .ref 0), (1, .long x1), (3, .int x3), (4, .int x4)], [])) rfl ?_
  have ex20 : ∀ (z1_5 : Int32), (some z1_5) = some r0 → RN xs L al (Ev xs L al d) 196 89 [(5, .int z1_5)] [] (m, S) (some (.int r0)) (m, S) := by
    intro z1_5 h
    try dsimp only at h
    refine rsn 1 (t := (91, [(5, .int z1_5)], [.int z1_5])) rfl ?_
    cases h
    exact rret rfl ⟨rfl, rfl, _, _, rfl, rfl, rfl, rfl⟩
  have lp20 : ∀ (n : Nat) (y2_5 : Int32), (f_Mo_placeOf_L20 N x1 x3 x4 m (fun (z1_5 : Int32) => some z1_5) n y2_5) = some r0 → RN xs L al (Ev xs L al d) 196 20 [(0, .ref 0), (1, .long x1), (3, .int x3), (4, .int x4), (5, .int y2_5)] [] (m, S) (some (.int r0)) (m, S) := by
    intro n
    induction n with
    | zero => intro y2_5 h; exact absurd h (by simp [f_Mo_placeOf_L20])
    | succ n20 ih20 =>
      intro y2_5 h
      try dsimp only at h
      rw [f_Mo_placeOf_L20] at h
      try dsimp only at h
      exact rsub [(0, .ref 0), (1, .long x1), (3, .int x3), (4, .int x4), (5, .int y2_5)] ⟨rfl, ⟨rfl, ⟨rfl, ⟨rfl, ⟨rfl, trivial⟩⟩⟩⟩⟩ ⟨rfl, ⟨rfl, ⟨rfl, ⟨rfl, ⟨rfl, trivial⟩⟩⟩⟩⟩ (ih20 y2_5 h)
  exact rsub [(0, .ref 0), (1, .long x1), (3, .int x3), (4, .int x4), (5, .int (((lus ((((((((x1 * 31)) + x3.toInt64)) + 1)) * ((-7046029254386353131)))) 45)).toInt32))] ⟨rfl, ⟨rfl, ⟨rfl, ⟨rfl, ⟨rfl, trivial⟩⟩⟩⟩⟩ ⟨rfl, ⟨rfl, ⟨rfl, ⟨rfl, ⟨rfl, trivial⟩⟩⟩⟩⟩ (lp20 N (((lus ((((((((x1 * 31)) + x3.toInt64)) + 1)) * ((-7046029254386353131)))) 45)).toInt32) h)
def f_Mo_lays (N : Nat) (x1 : Int64) (x3 : Int32) (m : Mm) : Option (Mm) := b1 (f_Mo_placeOf N x1 x3 ((mI m 0 40)) m) fun r1 => ck (ix r1 524288) ((if ((mX m 20 r1.toNatClampNeg)) = 0 then ck (ix ((mI m 0 40)) 160000) (ck (ix r1 524288) (some (vX (vI (vY m 17 (((mI m 0 40)).toNatClampNeg) x1) 0 40 ((((mI m 0 40)) + 1))) 20 r1.toNatClampNeg ((((mI m 0 40)) + 1))))) else some m))
set_option maxRecDepth 20000 in
set_option maxHeartbeats 4000000 in
theorem e_Mo_lays {xs : Nat → Int32} {L : Nat} {al : Bool} (N : Nat) {d : Nat} (hd : 2 ≤ d) {S : St} (hSh : ShR S) {x1 : Int64} {x3 : Int32} {m : Mm} {mf : Mm} (h : f_Mo_lays N x1 x3 m = some mf) : Ev xs L al d 195 [.ref 0, .long x1, .int x3] (m, S) none (mf, S) := by
  obtain ⟨d, rfl⟩ : ∃ e, d = e + 1 := ⟨d - 1, by omega⟩
  refine ev_of (by decide) (Nat.le_of_ble_eq_true rfl) ?_
  rw [f_Mo_lays] at h
  show RN xs L al (Ev xs L al d) 195 0 [(0, .ref 0), (1, .long x1), (3, .int x3)] [] (m, S) none (mf, S)
  refine rsn 4 (t := (4, [(0, .ref 0), (1, .long x1), (3, .int x3)], [.ref 0, .int x3, .long x1, .ref 0])) rfl ?_
  refine pgI rfl rfl rfl (hSh.k 0 rfl _) ?_
  show RN xs L al (Ev xs L al d) 195 7 [(0, .ref 0), (1, .long x1), (3, .int x3)] [.int ((mI m 0 40)), .int x3, .long x1, .ref 0] (m, S) none (mf, S)
  obtain ⟨r1, g1, h⟩ := b1_some h
  refine rcV 196 0 [.long x1, .int x3, .int ((mI m 0 40))] rfl rfl rfl (hSh.k 0 rfl _) (Nat.le_of_ble_eq_true rfl) rfl (e_Mo_placeOf N (by omega) hSh g1) ?_
  show RN xs L al (Ev xs L al d) 195 10 [(0, .ref 0), (1, .long x1), (3, .int x3)] [.int r1] (m, S) none (mf, S)
  refine rsn 2 (t := (13, [(4, .int r1), (0, .ref 0), (1, .long x1), (3, .int x3)], [.ref 0])) rfl ?_
  refine rgR rfl rfl rfl (hSh.k 0 rfl _) (hSh.r 19 rfl _) ?_
  refine rsn 1 (t := (18, [(4, .int r1), (0, .ref 0), (1, .long x1), (3, .int x3)], [.int r1, .ref 20])) rfl ?_
  obtain ⟨c2, h⟩ := ck_some h
  refine pxI rfl (hSh.k 20 rfl _) (hSh.l 19 rfl _) c2 ?_
  show RN xs L al (Ev xs L al d) 195 19 [(4, .int r1), (0, .ref 0), (1, .long x1), (3, .int x3)] [.int ((mX m 20 r1.toNatClampNeg))] (m, S) none (mf, S)
  by_cases c3 : ((mX m 20 r1.toNatClampNeg)) = 0
  · rw [if_pos c3] at h
    refine rjt (a := (23, [(4, .int r1), (0, .ref 0), (1, .long x1), (3, .int x3)], [])) (b := (22, [(4, .int r1), (0, .ref 0), (1, .long x1), (3, .int x3)], [])) rfl rfl c3 ?_
    refine rsn 1 (t := (24, [(4, .int r1), (0, .ref 0), (1, .long x1), (3, .int x3)], [.ref 0])) rfl ?_
    refine rgR rfl rfl rfl (hSh.k 0 rfl _) (hSh.r 16 rfl _) ?_
    refine rsn 1 (t := (28, [(4, .int r1), (0, .ref 0), (1, .long x1), (3, .int x3)], [.ref 0, .ref 17])) rfl ?_
    refine pgI rfl rfl rfl (hSh.k 0 rfl _) ?_
    show RN xs L al (Ev xs L al d) 195 31 [(4, .int r1), (0, .ref 0), (1, .long x1), (3, .int x3)] [.int ((mI m 0 40)), .ref 17] (m, S) none (mf, S)
    refine rsn 1 (t := (32, [(4, .int r1), (0, .ref 0), (1, .long x1), (3, .int x3)], [.long x1, .int ((mI m 0 40)), .ref 17])) rfl ?_
    obtain ⟨c4, h⟩ := ck_some h
    refine psJ rfl (hSh.k 17 rfl _) (hSh.l 16 rfl _) c4 ?_
    refine rsn 2 (t := (35, [(4, .int r1), (0, .ref 0), (1, .long x1), (3, .int x3)], [.ref 0, .ref 0])) rfl ?_
    refine pgI rfl rfl rfl (hSh.k 0 rfl _) ?_
    show RN xs L al (Ev xs L al d) 195 38 [(4, .int r1), (0, .ref 0), (1, .long x1), (3, .int x3)] [.int ((mI m 0 40)), .ref 0] ((vY m 17 (((mI m 0 40)).toNatClampNeg) x1), S) none (mf, S)
    refine rsn 2 (t := (40, [(4, .int r1), (0, .ref 0), (1, .long x1), (3, .int x3)], [.int ((((mI m 0 40)) + 1)), .ref 0])) rfl ?_
    refine ppI rfl rfl rfl rfl (hSh.k 0 rfl _) ?_
    refine rsn 1 (t := (44, [(4, .int r1), (0, .ref 0), (1, .long x1), (3, .int x3)], [.ref 0])) rfl ?_
    refine rgR rfl rfl rfl (hSh.k 0 rfl _) (hSh.r 19 rfl _) ?_
    refine rsn 2 (t := (50, [(4, .int r1), (0, .ref 0), (1, .long x1), (3, .int x3)], [.ref 0, .int r1, .ref 20])) rfl ?_
    refine pgI rfl rfl rfl (hSh.k 0 rfl _) ?_
    show RN xs L al (Ev xs L al d) 195 53 [(4, .int r1), (0, .ref 0), (1, .long x1), (3, .int x3)] [.int ((((mI m 0 40)) + 1)), .int r1, .ref 20] ((vI (vY m 17 (((mI m 0 40)).toNatClampNeg) x1) 0 40 ((((mI m 0 40)) + 1))), S) none (mf, S)
    obtain ⟨c5, h⟩ := ck_some h
    refine psI rfl (hSh.k 20 rfl _) (hSh.l 19 rfl _) c5 ?_
    cases h
    exact rret rfl ⟨rfl, rfl, rfl, rfl, rfl⟩
  · rw [if_neg c3] at h
    refine rjf (a := (23, [(4, .int r1), (0, .ref 0), (1, .long x1), (3, .int x3)], [])) (b := (22, [(4, .int r1), (0, .ref 0), (1, .long x1), (3, .int x3)], [])) rfl rfl c3 ?_
    cases h
    exact rret rfl ⟨rfl, rfl, rfl, rfl, rfl⟩
def f_Mo_laysAll_L2 (N : Nat) (x1 : Int32) (k2 : Int32 → Mm → Option (Mm)) : Nat → Int32 → Mm → Option (Mm)
  | 0, _, _ => none
  | n2 + 1, x2, m => f_Mo_laysAll_L2 N x1 k2 n2 x2 m
def f_Mo_laysAll_L65 (N : Nat) (x1 : Int32) (k65 : Int32 → Mm → Option (Mm)) : Nat → Int32 → Mm → Option (Mm)
  | 0, _, _ => none
  | n65 + 1, x2, m => f_Mo_laysAll_L65 N x1 k65 n65 x2 m
def f_Mo_laysAll_L126 (N : Nat) (x1 : Int32) (k126 : Int32 → Mm → Option (Mm)) : Nat → Int32 → Mm → Option (Mm)
  | 0, _, _ => none
  | n126 + 1, x2, m => f_Mo_laysAll_L126 N x1 k126 n126 x2 m
def f_Mo_laysAll (N : Nat) (x1 : Int32) (m : Mm) : Option (Mm) := f_Mo_laysAll_L2 N x1 (fun (z1_2 : Int32) (m1 : Mm) => ck (ix (0 : Int32) 9) ((jn (fun (m3 : Mm) => f_Mo_laysAll_L65 N x1 (fun (z4_2 : Int32) (m4 : Mm) => ck (ix (1 : Int32) 9) (f_Mo_laysAll_L126 N x1 (fun (z6_2 : Int32) (m6 : Mm) => some m6) N 0 (vX m4 19 ((1 : Int32).toNatClampNeg) ((mI m4 0 40))))) N 0 m3) (fun j63 => if ((mI m1 0 25)) = ((-1)) then b3 (f_Mo_lays N ((mJ m1 0 23)) 0 (vX (vI (vI m1 0 40 0) 0 39 ((((mI m1 0 18)) - ((mI m1 0 24))))) 19 ((0 : Int32).toNatClampNeg) 0)) fun m10 => j63 m10 else j63 ((vX (vI (vI m1 0 40 0) 0 39 ((((mI m1 0 18)) - ((mI m1 0 24))))) 19 ((0 : Int32).toNatClampNeg) 0)))))) N 0 m
set_option maxRecDepth 20000 in
set_option maxHeartbeats 4000000 in
theorem e_Mo_laysAll {xs : Nat → Int32} {L : Nat} {al : Bool} (N : Nat) {d : Nat} (hd : 4 ≤ d) {S : St} (hSh : ShR S) {x1 : Int32} {m : Mm} {mf : Mm} (h : f_Mo_laysAll N x1 m = some mf) : Ev xs L al d 194 [.ref 0, .int x1] (m, S) none (mf, S) := by
  obtain ⟨d, rfl⟩ : ∃ e, d = e + 1 := ⟨d - 1, by omega⟩
  refine ev_of (by decide) (Nat.le_of_ble_eq_true rfl) ?_
  rw [f_Mo_laysAll] at h
  show RN xs L al (Ev xs L al d) 194 0 [(0, .ref 0), (1, .int x1)] [] (m, S) none (mf, S)
  refine rsn 2 (t := (2, [(2, .int 0), (0, .ref 0), (1, .int x1)], [])) rfl ?_
  have ex2 : ∀ (z1_2 : Int32) (m1 : Mm), (ck (ix (0 : Int32) 9) ((jn (fun (m3 : Mm) => f_Mo_laysAll_L65 N x1 (fun (z4_2 : Int32) (m4 : Mm) => ck (ix (1 : Int32) 9) (f_Mo_laysAll_L126 N x1 (fun (z6_2 : Int32) (m6 : Mm) => some m6) N 0 (vX m4 19 ((1 : Int32).toNatClampNeg) ((mI m4 0 40))))) N 0 m3) (fun j63 => if ((mI m1 0 25)) = ((-1)) then b3 (f_Mo_lays N ((mJ m1 0 23)) 0 (vX (vI (vI m1 0 40 0) 0 39 ((((mI m1 0 18)) - ((mI m1 0 24))))) 19 ((0 : Int32).toNatClampNeg) 0)) fun m10 => j63 m10 else j63 ((vX (vI (vI m1 0 40 0) 0 39 ((((mI m1 0 18)) - ((mI m1 0 24))))) 19 ((0 : Int32).toNatClampNeg) 0)))))) = some mf → RN xs L al (Ev xs L al d) 194 21 [(0, .ref 0), (1, .int x1)] [] (m1, S) none (mf, S) := by
    intro z1_2 m1 h
    try dsimp only at h
    refine rsn 2 (t := (23, [(0, .ref 0), (1, .int x1)], [.int 0, .ref 0])) rfl ?_
    refine ppI rfl rfl rfl rfl (hSh.k 0 rfl _) ?_
    refine rsn 2 (t := (28, [(0, .ref 0), (1, .int x1)], [.ref 0, .ref 0])) rfl ?_
    refine pgI rfl rfl rfl (hSh.k 0 rfl _) ?_
    show RN xs L al (Ev xs L al d) 194 31 [(0, .ref 0), (1, .int x1)] [.int ((mI m1 0 18)), .ref 0] ((vI m1 0 40 0), S) none (mf, S)
    refine rsn 1 (t := (32, [(0, .ref 0), (1, .int x1)], [.ref 0, .int ((mI m1 0 18)), .ref 0])) rfl ?_
    refine pgI rfl rfl rfl (hSh.k 0 rfl _) ?_
    show RN xs L al (Ev xs L al d) 194 35 [(0, .ref 0), (1, .int x1)] [.int ((mI m1 0 24)), .int ((mI m1 0 18)), .ref 0] ((vI m1 0 40 0), S) none (mf, S)
    refine rsn 1 (t := (36, [(0, .ref 0), (1, .int x1)], [.int ((((mI m1 0 18)) - ((mI m1 0 24)))), .ref 0])) rfl ?_
    refine ppI rfl rfl rfl rfl (hSh.k 0 rfl _) ?_
    refine rsn 1 (t := (40, [(0, .ref 0), (1, .int x1)], [.ref 0])) rfl ?_
    refine rgR rfl rfl rfl (hSh.k 0 rfl _) (hSh.r 18 rfl _) ?_
    refine rsn 2 (t := (45, [(0, .ref 0), (1, .int x1)], [.int 0, .int 0, .ref 19])) rfl ?_
    obtain ⟨c2, h⟩ := ck_some h
    refine psI rfl (hSh.k 19 rfl _) (hSh.l 18 rfl _) c2 ?_
    refine rsn 1 (t := (47, [(0, .ref 0), (1, .int x1)], [.ref 0])) rfl ?_
    refine pgI rfl rfl rfl (hSh.k 0 rfl _) ?_
    show RN xs L al (Ev xs L al d) 194 50 [(0, .ref 0), (1, .int x1)] [.int ((mI m1 0 25))] ((vX (vI (vI m1 0 40 0) 0 39 ((((mI m1 0 18)) - ((mI m1 0 24))))) 19 ((0 : Int32).toNatClampNeg) 0), S) none (mf, S)
    refine rsn 1 (t := (51, [(0, .ref 0), (1, .int x1)], [.int ((-1)), .int ((mI m1 0 25))])) rfl ?_
    have jp63 : ∀ (m3 : Mm), (f_Mo_laysAll_L65 N x1 (fun (z4_2 : Int32) (m4 : Mm) => ck (ix (1 : Int32) 9) (f_Mo_laysAll_L126 N x1 (fun (z6_2 : Int32) (m6 : Mm) => some m6) N 0 (vX m4 19 ((1 : Int32).toNatClampNeg) ((mI m4 0 40))))) N 0 m3) = some mf → RN xs L al (Ev xs L al d) 194 63 [(0, .ref 0), (1, .int x1)] [] (m3, S) none (mf, S) := by
      intro m3 h
      try dsimp only at h
      refine rsn 2 (t := (65, [(2, .int 0), (0, .ref 0), (1, .int x1)], [])) rfl ?_
      have ex65 : ∀ (z4_2 : Int32) (m4 : Mm), (ck (ix (1 : Int32) 9) (f_Mo_laysAll_L126 N x1 (fun (z6_2 : Int32) (m6 : Mm) => some m6) N 0 (vX m4 19 ((1 : Int32).toNatClampNeg) ((mI m4 0 40))))) = some mf → RN xs L al (Ev xs L al d) 194 114 [(0, .ref 0), (1, .int x1)] [] (m4, S) none (mf, S) := by
        intro z4_2 m4 h
        try dsimp only at h
        refine rsn 1 (t := (115, [(0, .ref 0), (1, .int x1)], [.ref 0])) rfl ?_
        refine rgR rfl rfl rfl (hSh.k 0 rfl _) (hSh.r 18 rfl _) ?_
        refine rsn 2 (t := (120, [(0, .ref 0), (1, .int x1)], [.ref 0, .int 1, .ref 19])) rfl ?_
        refine pgI rfl rfl rfl (hSh.k 0 rfl _) ?_
        show RN xs L al (Ev xs L al d) 194 123 [(0, .ref 0), (1, .int x1)] [.int ((mI m4 0 40)), .int 1, .ref 19] (m4, S) none (mf, S)
        obtain ⟨c5, h⟩ := ck_some h
        refine psI rfl (hSh.k 19 rfl _) (hSh.l 18 rfl _) c5 ?_
        refine rsn 2 (t := (126, [(2, .int 0), (0, .ref 0), (1, .int x1)], [])) rfl ?_
        have ex126 : ∀ (z6_2 : Int32) (m6 : Mm), (some m6) = some mf → RN xs L al (Ev xs L al d) 194 329 [] [] (m6, S) none (mf, S) := by
          intro z6_2 m6 h
          try dsimp only at h
          cases h
          exact rret rfl ⟨rfl, rfl, rfl, rfl, rfl⟩
        have lp126 : ∀ (n : Nat) (y7_2 : Int32) (m7 : Mm), (f_Mo_laysAll_L126 N x1 (fun (z6_2 : Int32) (m6 : Mm) => some m6) n y7_2 m7) = some mf → RN xs L al (Ev xs L al d) 194 126 [(0, .ref 0), (1, .int x1), (2, .int y7_2)] [] (m7, S) none (mf, S) := by
          intro n
          induction n with
          | zero => intro y7_2 m7 h; exact absurd h (by simp [f_Mo_laysAll_L126])
          | succ n126 ih126 =>
            intro y7_2 m7 h
            try dsimp only at h
            rw [f_Mo_laysAll_L126] at h
            try dsimp only at h
            exact rsub [(0, .ref 0), (1, .int x1), (2, .int y7_2)] ⟨rfl, ⟨rfl, ⟨rfl, trivial⟩⟩⟩ ⟨rfl, ⟨rfl, ⟨rfl, trivial⟩⟩⟩ (ih126 y7_2 m7 h)
        exact rsub [(0, .ref 0), (1, .int x1), (2, .int 0)] ⟨rfl, ⟨rfl, ⟨rfl, trivial⟩⟩⟩ ⟨rfl, ⟨rfl, ⟨rfl, trivial⟩⟩⟩ (lp126 N 0 (vX m4 19 ((1 : Int32).toNatClampNeg) ((mI m4 0 40))) h)
      have lp65 : ∀ (n : Nat) (y8_2 : Int32) (m8 : Mm), (f_Mo_laysAll_L65 N x1 (fun (z4_2 : Int32) (m4 : Mm) => ck (ix (1 : Int32) 9) (f_Mo_laysAll_L126 N x1 (fun (z6_2 : Int32) (m6 : Mm) => some m6) N 0 (vX m4 19 ((1 : Int32).toNatClampNeg) ((mI m4 0 40))))) n y8_2 m8) = some mf → RN xs L al (Ev xs L al d) 194 65 [(0, .ref 0), (1, .int x1), (2, .int y8_2)] [] (m8, S) none (mf, S) := by
        intro n
        induction n with
        | zero => intro y8_2 m8 h; exact absurd h (by simp [f_Mo_laysAll_L65])
        | succ n65 ih65 =>
          intro y8_2 m8 h
          try dsimp only at h
          rw [f_Mo_laysAll_L65] at h
          try dsimp only at h
          exact rsub [(0, .ref 0), (1, .int x1), (2, .int y8_2)] ⟨rfl, ⟨rfl, ⟨rfl, trivial⟩⟩⟩ ⟨rfl, ⟨rfl, ⟨rfl, trivial⟩⟩⟩ (ih65 y8_2 m8 h)
      exact rsub [(0, .ref 0), (1, .int x1), (2, .int 0)] ⟨rfl, ⟨rfl, ⟨rfl, trivial⟩⟩⟩ ⟨rfl, ⟨rfl, ⟨rfl, trivial⟩⟩⟩ (lp65 N 0 m3 h)
    rw [jn] at h
    try dsimp only at h
    by_cases c9 : ((mI m1 0 25)) = ((-1))
    · rw [if_pos c9] at h
      refine rjf (a := (63, [(0, .ref 0), (1, .int x1)], [])) (b := (54, [(0, .ref 0), (1, .int x1)], [])) rfl rfl (fun q => q c9) ?_
      refine rsn 2 (t := (56, [(0, .ref 0), (1, .int x1)], [.ref 0, .ref 0])) rfl ?_
      refine pgJ rfl rfl rfl (hSh.k 0 rfl _) ?_
      show RN xs L al (Ev xs L al d) 194 59 [(0, .ref 0), (1, .int x1)] [.long ((mJ m1 0 23)), .ref 0] ((vX (vI (vI m1 0 40 0) 0 39 ((((mI m1 0 18)) - ((mI m1 0 24))))) 19 ((0 : Int32).toNatClampNeg) 0), S) none (mf, S)
      refine rsn 1 (t := (60, [(0, .ref 0), (1, .int x1)], [.int 0, .long ((mJ m1 0 23)), .ref 0])) rfl ?_
      obtain ⟨m10, g10, h⟩ := b3_some h
      refine rcV 195 0 [.long ((mJ m1 0 23)), .int 0] rfl rfl rfl (hSh.k 0 rfl _) (Nat.le_of_ble_eq_true rfl) rfl (e_Mo_lays N (by omega) hSh g10) ?_
      show RN xs L al (Ev xs L al d) 194 63 [(0, .ref 0), (1, .int x1)] [] (m10, S) none (mf, S)
      exact rsub [(0, .ref 0), (1, .int x1)] ⟨rfl, ⟨rfl, trivial⟩⟩ ⟨rfl, ⟨rfl, trivial⟩⟩ (jp63 m10 h)
    · rw [if_neg c9] at h
      refine rjt (a := (63, [(0, .ref 0), (1, .int x1)], [])) (b := (54, [(0, .ref 0), (1, .int x1)], [])) rfl rfl c9 ?_
      exact rsub [(0, .ref 0), (1, .int x1)] ⟨rfl, ⟨rfl, trivial⟩⟩ ⟨rfl, ⟨rfl, trivial⟩⟩ (jp63 ((vX (vI (vI m1 0 40 0) 0 39 ((((mI m1 0 18)) - ((mI m1 0 24))))) 19 ((0 : Int32).toNatClampNeg) 0)) h)
  have lp2 : ∀ (n : Nat) (y11_2 : Int32) (m11 : Mm), (f_Mo_laysAll_L2 N x1 (fun (z1_2 : Int32) (m1 : Mm) => ck (ix (0 : Int32) 9) ((jn (fun (m3 : Mm) => f_Mo_laysAll_L65 N x1 (fun (z4_2 : Int32) (m4 : Mm) => ck (ix (1 : Int32) 9) (f_Mo_laysAll_L126 N x1 (fun (z6_2 : Int32) (m6 : Mm) => some m6) N 0 (vX m4 19 ((1 : Int32).toNatClampNeg) ((mI m4 0 40))))) N 0 m3) (fun j63 => if ((mI m1 0 25)) = ((-1)) then b3 (f_Mo_lays N ((mJ m1 0 23)) 0 (vX (vI (vI m1 0 40 0) 0 39 ((((mI m1 0 18)) - ((mI m1 0 24))))) 19 ((0 : Int32).toNatClampNeg) 0)) fun m10 => j63 m10 else j63 ((vX (vI (vI m1 0 40 0) 0 39 ((((mI m1 0 18)) - ((mI m1 0 24))))) 19 ((0 : Int32).toNatClampNeg) 0)))))) n y11_2 m11) = some mf → RN xs L al (Ev xs L al d) 194 2 [(0, .ref 0), (1, .int x1), (2, .int y11_2)] [] (m11, S) none (mf, S) := by
    intro n
    induction n with
    | zero => intro y11_2 m11 h; exact absurd h (by simp [f_Mo_laysAll_L2])
    | succ n2 ih2 =>
      intro y11_2 m11 h
      try dsimp only at h
      rw [f_Mo_laysAll_L2] at h
      try dsimp only at h
      exact rsub [(0, .ref 0), (1, .int x1), (2, .int y11_2)] ⟨rfl, ⟨rfl, ⟨rfl, trivial⟩⟩⟩ ⟨rfl, ⟨rfl, ⟨rfl, trivial⟩⟩⟩ (ih2 y11_2 m11 h)
  exact rsub [(0, .ref 0), (1, .int x1), (2, .int 0)] ⟨rfl, ⟨rfl, ⟨rfl, trivial⟩⟩⟩ ⟨rfl, ⟨rfl, ⟨rfl, trivial⟩⟩⟩ (lp2 N 0 m h)
def f_Mo_valueOf (N : Nat) (x1 : Int64) (x3 : Int32) (m : Mm) : Option (Int64) := ck (ix x3 9) (ck (ix ((x3 + 1)) 9) (b1 (f_Mo_placeOf N x1 ((mX m 19 x3.toNatClampNeg)) ((mX m 19 (((x3 + 1)).toNatClampNeg))) m) fun r3 => ck (ix r3 524288) (ck (ix ((((mX m 20 r3.toNatClampNeg)) - 1)) 160000) (some ((mYy m 18 (((((mX m 20 r3.toNatClampNeg)) - 1)).toNatClampNeg)))))))
set_option maxRecDepth 20000 in
set_option maxHeartbeats 4000000 in
theorem e_Mo_valueOf {xs : Nat → Int32} {L : Nat} {al : Bool} (N : Nat) {d : Nat} (hd : 2 ≤ d) {S : St} (hSh : ShR S) {x1 : Int64} {x3 : Int32} {m : Mm} {r0 : Int64} (h : f_Mo_valueOf N x1 x3 m = some r0) : Ev xs L al d 198 [.ref 0, .long x1, .int x3] (m, S) (some (.long r0)) (m, S) := by
  obtain ⟨d, rfl⟩ : ∃ e, d = e + 1 := ⟨d - 1, by omega⟩
  refine ev_of (by decide) (Nat.le_of_ble_eq_true rfl) ?_
  rw [f_Mo_valueOf] at h
  show RN xs L al (Ev xs L al d) 198 0 [(0, .ref 0), (1, .long x1), (3, .int x3)] [] (m, S) (some (.long r0)) (m, S)
  refine rsn 1 (t := (1, [(0, .ref 0), (1, .long x1), (3, .int x3)], [.ref 0])) rfl ?_
  refine rgR rfl rfl rfl (hSh.k 0 rfl _) (hSh.r 17 rfl _) ?_
  refine rsn 1 (t := (5, [(0, .ref 0), (1, .long x1), (3, .int x3)], [.ref 0, .ref 18])) rfl ?_
  refine rgR rfl rfl rfl (hSh.k 0 rfl _) (hSh.r 19 rfl _) ?_
  refine rsn 3 (t := (11, [(0, .ref 0), (1, .long x1), (3, .int x3)], [.ref 0, .long x1, .ref 0, .ref 20, .ref 18])) rfl ?_
  refine rgR rfl rfl rfl (hSh.k 0 rfl _) (hSh.r 18 rfl _) ?_
  refine rsn 1 (t := (15, [(0, .ref 0), (1, .long x1), (3, .int x3)], [.int x3, .ref 19, .long x1, .ref 0, .ref 20, .ref 18])) rfl ?_
  obtain ⟨c1, h⟩ := ck_some h
  refine pxI rfl (hSh.k 19 rfl _) (hSh.l 18 rfl _) c1 ?_
  show RN xs L al (Ev xs L al d) 198 16 [(0, .ref 0), (1, .long x1), (3, .int x3)] [.int ((mX m 19 x3.toNatClampNeg)), .long x1, .ref 0, .ref 20, .ref 18] (m, S) (some (.long r0)) (m, S)
  refine rsn 1 (t := (17, [(0, .ref 0), (1, .long x1), (3, .int x3)], [.ref 0, .int ((mX m 19 x3.toNatClampNeg)), .long x1, .ref 0, .ref 20, .ref 18])) rfl ?_
  refine rgR rfl rfl rfl (hSh.k 0 rfl _) (hSh.r 18 rfl _) ?_
  refine rsn 3 (t := (23, [(0, .ref 0), (1, .long x1), (3, .int x3)], [.int ((x3 + 1)), .ref 19, .int ((mX m 19 x3.toNatClampNeg)), .long x1, .ref 0, .ref 20, .ref 18])) rfl ?_
  obtain ⟨c2, h⟩ := ck_some h
  refine pxI rfl (hSh.k 19 rfl _) (hSh.l 18 rfl _) c2 ?_
  show RN xs L al (Ev xs L al d) 198 24 [(0, .ref 0), (1, .long x1), (3, .int x3)] [.int ((mX m 19 (((x3 + 1)).toNatClampNeg))), .int ((mX m 19 x3.toNatClampNeg)), .long x1, .ref 0, .ref 20, .ref 18] (m, S) (some (.long r0)) (m, S)
  obtain ⟨r3, g3, h⟩ := b1_some h
  refine rcV 196 0 [.long x1, .int ((mX m 19 x3.toNatClampNeg)), .int ((mX m 19 (((x3 + 1)).toNatClampNeg)))] rfl rfl rfl (hSh.k 0 rfl _) (Nat.le_of_ble_eq_true rfl) rfl (e_Mo_placeOf N (by omega) hSh g3) ?_
  show RN xs L al (Ev xs L al d) 198 27 [(0, .ref 0), (1, .long x1), (3, .int x3)] [.int r3, .ref 20, .ref 18] (m, S) (some (.long r0)) (m, S)
  obtain ⟨c4, h⟩ := ck_some h
  refine pxI rfl (hSh.k 20 rfl _) (hSh.l 19 rfl _) c4 ?_
  show RN xs L al (Ev xs L al d) 198 28 [(0, .ref 0), (1, .long x1), (3, .int x3)] [.int ((mX m 20 r3.toNatClampNeg)), .ref 18] (m, S) (some (.long r0)) (m, S)
  refine rsn 2 (t := (30, [(0, .ref 0), (1, .long x1), (3, .int x3)], [.int ((((mX m 20 r3.toNatClampNeg)) - 1)), .ref 18])) rfl ?_
  obtain ⟨c5, h⟩ := ck_some h
  refine pxJ rfl (hSh.k 18 rfl _) (hSh.l 17 rfl _) c5 ?_
  show RN xs L al (Ev xs L al d) 198 31 [(0, .ref 0), (1, .long x1), (3, .int x3)] [.long ((mYy m 18 (((((mX m 20 r3.toNatClampNeg)) - 1)).toNatClampNeg)))] (m, S) (some (.long r0)) (m, S)
  cases h
  exact rret rfl ⟨rfl, rfl, _, rfl, rfl, rfl⟩
def f_Mo_given_L23 (N : Nat) (x1 : Int64) (x3 : Int32) (x5 : Int32) (x6 : Int32) (m : Mm) (k23 : Int64 → Int32 → Option (Int64)) : Nat → Int64 → Int32 → Option (Int64)
  | 0, _, _ => none
  | n23 + 1, x7, x9 => f_Mo_given_L23 N x1 x3 x5 x6 m k23 n23 x7 x9
def f_Mo_given (N : Nat) (x1 : Int64) (x3 : Int32) (x4 : Int32) (x5 : Int32) (m : Mm) : Option (Int64) := b1 (f_Mo_altOf N ((((mI m 0 24)) + x3)) x4 2 m) fun r1 => f_Mo_given_L23 N x1 x3 x5 r1 m (fun (z2_7 : Int64) (z2_9 : Int32) => some z2_7) N ((-1)) 0
set_option maxRecDepth 20000 in
set_option maxHeartbeats 4000000 in
theorem e_Mo_given {xs : Nat → Int32} {L : Nat} {al : Bool} (N : Nat) {d : Nat} (hd : 4 ≤ d) {S : St} (hSh : ShR S) {x1 : Int64} {x3 : Int32} {x4 : Int32} {x5 : Int32} {m : Mm} {r0 : Int64} (h : f_Mo_given N x1 x3 x4 x5 m = some r0) : Ev xs L al d 199 [.ref 0, .long x1, .int x3, .int x4, .int x5] (m, S) (some (.long r0)) (m, S) := by
  obtain ⟨d, rfl⟩ : ∃ e, d = e + 1 := ⟨d - 1, by omega⟩
  refine ev_of (by decide) (Nat.le_of_ble_eq_true rfl) ?_
  rw [f_Mo_given] at h
  show RN xs L al (Ev xs L al d) 199 0 [(0, .ref 0), (1, .long x1), (3, .int x3), (4, .int x4), (5, .int x5)] [] (m, S) (some (.long r0)) (m, S)
  refine rsn 2 (t := (2, [(0, .ref 0), (1, .long x1), (3, .int x3), (4, .int x4), (5, .int x5)], [.ref 0, .ref 0])) rfl ?_
  refine pgI rfl rfl rfl (hSh.k 0 rfl _) ?_
  show RN xs L al (Ev xs L al d) 199 5 [(0, .ref 0), (1, .long x1), (3, .int x3), (4, .int x4), (5, .int x5)] [.int ((mI m 0 24)), .ref 0] (m, S) (some (.long r0)) (m, S)
  refine rsn 4 (t := (10, [(0, .ref 0), (1, .long x1), (3, .int x3), (4, .int x4), (5, .int x5)], [.int 2, .int x4, .int ((((mI m 0 24)) + x3)), .ref 0])) rfl ?_
  obtain ⟨r1, g1, h⟩ := b1_some h
  refine rcV 177 0 [.int ((((mI m 0 24)) + x3)), .int x4, .int 2] rfl rfl rfl (hSh.k 0 rfl _) (Nat.le_of_ble_eq_true rfl) rfl (e_Mo_altOf N (by omega) hSh g1) ?_
  show RN xs L al (Ev xs L al d) 199 13 [(0, .ref 0), (1, .long x1), (3, .int x3), (4, .int x4), (5, .int x5)] [.int r1] (m, S) (some (.long r0)) (m, S)
  refine rsn 5 (t := (23, [(9, .int 0), (7, .long ((-1))), (6, .int r1), (0, .ref 0), (1, .long x1), (3, .int x3), (4, .int x4), (5, .int x5)], [])) rfl ?_
  have ex23 : ∀ (z2_7 : Int64) (z2_9 : Int32), (some z2_7) = some r0 → RN xs L al (Ev xs L al d) 199 95 [(7, .long z2_7)] [] (m, S) (some (.long r0)) (m, S) := by
    intro z2_7 z2_9 h
    try dsimp only at h
    refine rsn 1 (t := (97, [(7, .long z2_7)], [.long z2_7])) rfl ?_
    cases h
    exact rret rfl ⟨rfl, rfl, _, rfl, rfl, rfl⟩
  have lp23 : ∀ (n : Nat) (y3_7 : Int64) (y3_9 : Int32), (f_Mo_given_L23 N x1 x3 x5 r1 m (fun (z2_7 : Int64) (z2_9 : Int32) => some z2_7) n y3_7 y3_9) = some r0 → RN xs L al (Ev xs L al d) 199 23 [(0, .ref 0), (1, .long x1), (3, .int x3), (5, .int x5), (6, .int r1), (7, .long y3_7), (9, .int y3_9)] [] (m, S) (some (.long r0)) (m, S) := by
    intro n
    induction n with
    | zero => intro y3_7 y3_9 h; exact absurd h (by simp [f_Mo_given_L23])
    | succ n23 ih23 =>
      intro y3_7 y3_9 h
      try dsimp only at h
      rw [f_Mo_given_L23] at h
      try dsimp only at h
      exact rsub [(0, .ref 0), (1, .long x1), (3, .int x3), (5, .int x5), (6, .int r1), (7, .long y3_7), (9, .int y3_9)] ⟨rfl, ⟨rfl, ⟨rfl, ⟨rfl, ⟨rfl, ⟨rfl, ⟨rfl, trivial⟩⟩⟩⟩⟩⟩⟩ ⟨rfl, ⟨rfl, ⟨rfl, ⟨rfl, ⟨rfl, ⟨rfl, ⟨rfl, trivial⟩⟩⟩⟩⟩⟩⟩ (ih23 y3_7 y3_9 h)
  exact rsub [(0, .ref 0), (1, .long x1), (3, .int x3), (5, .int x5), (6, .int r1), (7, .long ((-1))), (9, .int 0)] ⟨rfl, ⟨rfl, ⟨rfl, ⟨rfl, ⟨rfl, ⟨rfl, ⟨rfl, trivial⟩⟩⟩⟩⟩⟩⟩ ⟨rfl, ⟨rfl, ⟨rfl, ⟨rfl, ⟨rfl, ⟨rfl, ⟨rfl, trivial⟩⟩⟩⟩⟩⟩⟩ (lp23 N ((-1)) 0 h)
def f_Mo_after (N : Nat) (x1 : Int64) (x3 : Int32) (x4 : Int32) (x5 : Int32) (m : Mm) : Option (Int64) := b1 (f_Mo_altOf N ((((mI m 0 24)) + x3)) x4 1 m) fun r1 => (if r1 = 0 then b1 (f_Mo_given N x1 x3 x4 x5 m) fun r3 => b1 (f_Mo_valueOf N r3 ((x3 + 1)) m) fun r4 => some r4 else (if r1 = 1 then b1 (f_Mo_altOf N ((((mI m 0 24)) + x3)) x4 2 m) fun r7 => b1 (f_Mo_valueOf N ((x1 ||| ((lsl 1 ((36 + r7)))))) ((x3 + 1)) m) fun r8 => some r8 else b1 (f_Mo_valueOf N x1 ((x3 + 1)) m) fun r6 => some r6))
set_option maxRecDepth 20000 in
set_option maxHeartbeats 4000000 in
theorem e_Mo_after {xs : Nat → Int32} {L : Nat} {al : Bool} (N : Nat) {d : Nat} (hd : 5 ≤ d) {S : St} (hSh : ShR S) {x1 : Int64} {x3 : Int32} {x4 : Int32} {x5 : Int32} {m : Mm} {r0 : Int64} (h : f_Mo_after N x1 x3 x4 x5 m = some r0) : Ev xs L al d 197 [.ref 0, .long x1, .int x3, .int x4, .int x5] (m, S) (some (.long r0)) (m, S) := by
  obtain ⟨d, rfl⟩ : ∃ e, d = e + 1 := ⟨d - 1, by omega⟩
  refine ev_of (by decide) (Nat.le_of_ble_eq_true rfl) ?_
  rw [f_Mo_after] at h
  show RN xs L al (Ev xs L al d) 197 0 [(0, .ref 0), (1, .long x1), (3, .int x3), (4, .int x4), (5, .int x5)] [] (m, S) (some (.long r0)) (m, S)
  refine rsn 2 (t := (2, [(0, .ref 0), (1, .long x1), (3, .int x3), (4, .int x4), (5, .int x5)], [.ref 0, .ref 0])) rfl ?_
  refine pgI rfl rfl rfl (hSh.k 0 rfl _) ?_
  show RN xs L al (Ev xs L al d) 197 5 [(0, .ref 0), (1, .long x1), (3, .int x3), (4, .int x4), (5, .int x5)] [.int ((mI m 0 24)), .ref 0] (m, S) (some (.long r0)) (m, S)
  refine rsn 4 (t := (10, [(0, .ref 0), (1, .long x1), (3, .int x3), (4, .int x4), (5, .int x5)], [.int 1, .int x4, .int ((((mI m 0 24)) + x3)), .ref 0])) rfl ?_
  obtain ⟨r1, g1, h⟩ := b1_some h
  refine rcV 177 0 [.int ((((mI m 0 24)) + x3)), .int x4, .int 1] rfl rfl rfl (hSh.k 0 rfl _) (Nat.le_of_ble_eq_true rfl) rfl (e_Mo_altOf N (by omega) hSh g1) ?_
  show RN xs L al (Ev xs L al d) 197 13 [(0, .ref 0), (1, .long x1), (3, .int x3), (4, .int x4), (5, .int x5)] [.int r1] (m, S) (some (.long r0)) (m, S)
  refine rsn 2 (t := (17, [(6, .int r1), (0, .ref 0), (1, .long x1), (3, .int x3), (4, .int x4), (5, .int x5)], [.int r1])) rfl ?_
  by_cases c2 : r1 = 0
  · rw [if_pos c2] at h
    refine rjt (a := (58, [(6, .int r1), (0, .ref 0), (1, .long x1), (3, .int x3), (4, .int x4), (5, .int x5)], [])) (b := (20, [(6, .int r1), (0, .ref 0), (1, .long x1), (3, .int x3), (4, .int x4), (5, .int x5)], [])) rfl rfl c2 ?_
    refine rsn 6 (t := (66, [(6, .int r1), (0, .ref 0), (1, .long x1), (3, .int x3), (4, .int x4), (5, .int x5)], [.int x5, .int x4, .int x3, .long x1, .ref 0, .ref 0])) rfl ?_
    obtain ⟨r3, g3, h⟩ := b1_some h
    refine rcV 199 0 [.long x1, .int x3, .int x4, .int x5] rfl rfl rfl (hSh.k 0 rfl _) (Nat.le_of_ble_eq_true rfl) rfl (e_Mo_given N (by omega) hSh g3) ?_
    show RN xs L al (Ev xs L al d) 197 69 [(6, .int r1), (0, .ref 0), (1, .long x1), (3, .int x3), (4, .int x4), (5, .int x5)] [.long r3, .ref 0] (m, S) (some (.long r0)) (m, S)
    refine rsn 3 (t := (72, [(6, .int r1), (0, .ref 0), (1, .long x1), (3, .int x3), (4, .int x4), (5, .int x5)], [.int ((x3 + 1)), .long r3, .ref 0])) rfl ?_
    obtain ⟨r4, g4, h⟩ := b1_some h
    refine rcV 198 0 [.long r3, .int ((x3 + 1))] rfl rfl rfl (hSh.k 0 rfl _) (Nat.le_of_ble_eq_true rfl) rfl (e_Mo_valueOf N (by omega) hSh g4) ?_
    show RN xs L al (Ev xs L al d) 197 75 [(6, .int r1), (0, .ref 0), (1, .long x1), (3, .int x3), (4, .int x4), (5, .int x5)] [.long r4] (m, S) (some (.long r0)) (m, S)
    cases h
    exact rret rfl ⟨rfl, rfl, _, rfl, rfl, rfl⟩
  · rw [if_neg c2] at h
    refine rjf (a := (58, [(6, .int r1), (0, .ref 0), (1, .long x1), (3, .int x3), (4, .int x4), (5, .int x5)], [])) (b := (20, [(6, .int r1), (0, .ref 0), (1, .long x1), (3, .int x3), (4, .int x4), (5, .int x5)], [])) rfl rfl c2 ?_
    refine rsn 3 (t := (24, [(6, .int r1), (0, .ref 0), (1, .long x1), (3, .int x3), (4, .int x4), (5, .int x5)], [.int 1, .int r1, .ref 0])) rfl ?_
    by_cases c5 : r1 = 1
    · rw [if_pos c5] at h
      refine rjf (a := (50, [(6, .int r1), (0, .ref 0), (1, .long x1), (3, .int x3), (4, .int x4), (5, .int x5)], [.ref 0])) (b := (27, [(6, .int r1), (0, .ref 0), (1, .long x1), (3, .int x3), (4, .int x4), (5, .int x5)], [.ref 0])) rfl rfl (fun q => q c5) ?_
      refine rsn 5 (t := (33, [(6, .int r1), (0, .ref 0), (1, .long x1), (3, .int x3), (4, .int x4), (5, .int x5)], [.ref 0, .ref 0, .int 36, .long 1, .long x1, .ref 0])) rfl ?_
      refine pgI rfl rfl rfl (hSh.k 0 rfl _) ?_
      show RN xs L al (Ev xs L al d) 197 36 [(6, .int r1), (0, .ref 0), (1, .long x1), (3, .int x3), (4, .int x4), (5, .int x5)] [.int ((mI m 0 24)), .ref 0, .int 36, .long 1, .long x1, .ref 0] (m, S) (some (.long r0)) (m, S)
      refine rsn 4 (t := (41, [(6, .int r1), (0, .ref 0), (1, .long x1), (3, .int x3), (4, .int x4), (5, .int x5)], [.int 2, .int x4, .int ((((mI m 0 24)) + x3)), .ref 0, .int 36, .long 1, .long x1, .ref 0])) rfl ?_
      obtain ⟨r7, g7, h⟩ := b1_some h
      refine rcV 177 0 [.int ((((mI m 0 24)) + x3)), .int x4, .int 2] rfl rfl rfl (hSh.k 0 rfl _) (Nat.le_of_ble_eq_true rfl) rfl (e_Mo_altOf N (by omega) hSh g7) ?_
      show RN xs L al (Ev xs L al d) 197 44 [(6, .int r1), (0, .ref 0), (1, .long x1), (3, .int x3), (4, .int x4), (5, .int x5)] [.int r7, .int 36, .long 1, .long x1, .ref 0] (m, S) (some (.long r0)) (m, S)
      refine rsn 7 (t := (54, [(6, .int r1), (0, .ref 0), (1, .long x1), (3, .int x3), (4, .int x4), (5, .int x5)], [.int ((x3 + 1)), .long ((x1 ||| ((lsl 1 ((36 + r7)))))), .ref 0])) rfl ?_
      obtain ⟨r8, g8, h⟩ := b1_some h
      refine rcV 198 0 [.long ((x1 ||| ((lsl 1 ((36 + r7)))))), .int ((x3 + 1))] rfl rfl rfl (hSh.k 0 rfl _) (Nat.le_of_ble_eq_true rfl) rfl (e_Mo_valueOf N (by omega) hSh g8) ?_
      show RN xs L al (Ev xs L al d) 197 57 [(6, .int r1), (0, .ref 0), (1, .long x1), (3, .int x3), (4, .int x4), (5, .int x5)] [.long r8] (m, S) (some (.long r0)) (m, S)
      cases h
      exact rret rfl ⟨rfl, rfl, _, rfl, rfl, rfl⟩
    · rw [if_neg c5] at h
      refine rjt (a := (50, [(6, .int r1), (0, .ref 0), (1, .long x1), (3, .int x3), (4, .int x4), (5, .int x5)], [.ref 0])) (b := (27, [(6, .int r1), (0, .ref 0), (1, .long x1), (3, .int x3), (4, .int x4), (5, .int x5)], [.ref 0])) rfl rfl c5 ?_
      refine rsn 4 (t := (54, [(6, .int r1), (0, .ref 0), (1, .long x1), (3, .int x3), (4, .int x4), (5, .int x5)], [.int ((x3 + 1)), .long x1, .ref 0])) rfl ?_
      obtain ⟨r6, g6, h⟩ := b1_some h
      refine rcV 198 0 [.long x1, .int ((x3 + 1))] rfl rfl rfl (hSh.k 0 rfl _) (Nat.le_of_ble_eq_true rfl) rfl (e_Mo_valueOf N (by omega) hSh g6) ?_
      show RN xs L al (Ev xs L al d) 197 57 [(6, .int r1), (0, .ref 0), (1, .long x1), (3, .int x3), (4, .int x4), (5, .int x5)] [.long r6] (m, S) (some (.long r0)) (m, S)
      cases h
      exact rret rfl ⟨rfl, rfl, _, rfl, rfl, rfl⟩
def f_Mo_solved_L16 (N : Nat) (x1 : Int32) (x2 : Int32) (x3 : Int32) (x4 : Int32) (k16 : Int32 → Mm → Option (Int64 × Mm)) : Nat → Int32 → Mm → Option (Int64 × Mm)
  | 0, _, _ => none
  | n16 + 1, x5, m => f_Mo_solved_L16 N x1 x2 x3 x4 k16 n16 x5 m
def f_Mo_solved_L68 (N : Nat) (x2 : Int32) (x3 : Int32) (k68 : Int32 → Mm → Option (Int64 × Mm)) : Nat → Int32 → Mm → Option (Int64 × Mm)
  | 0, _, _ => none
  | n68 + 1, x5, m => f_Mo_solved_L68 N x2 x3 k68 n68 x5 m
def f_Mo_solved_L227 (N : Nat) (m : Mm) (k227 : Int64 → Int32 → Option (Int64 × Mm)) : Nat → Int64 → Int32 → Option (Int64 × Mm)
  | 0, _, _ => none
  | n227 + 1, x5, x7 => f_Mo_solved_L227 N m k227 n227 x5 x7
def f_Mo_solved (N : Nat) (x1 : Int32) (x2 : Int32) (x3 : Int32) (x4 : Int32) (m : Mm) : Option (Int64 × Mm) := b3 (f_Mo_laysAll N x3 m) fun m1 => ck (ix ((mI m1 0 39)) 9) (f_Mo_solved_L16 N x1 x2 x3 x4 (fun (z3_5 : Int32) (m3 : Mm) => f_Mo_solved_L68 N x2 x3 (fun (z4_5 : Int32) (m4 : Mm) => ck (ix (0 : Int32) 160000) (f_Mo_solved_L227 N m4 (fun (z6_5 : Int64) (z6_7 : Int32) => some (z6_5, m4)) N ((mYy m4 18 ((0 : Int32).toNatClampNeg))) 1)) N ((((mI m3 0 39)) - 1)) m3) N ((mX m1 19 (((mI m1 0 39)).toNatClampNeg))) m1)
set_option maxRecDepth 20000 in
set_option maxHeartbeats 4000000 in
theorem e_Mo_solved {xs : Nat → Int32} {L : Nat} {al : Bool} (N : Nat) {d : Nat} (hd : 8 ≤ d) {S : St} (hSh : ShR S) {x1 : Int32} {x2 : Int32} {x3 : Int32} {x4 : Int32} {m : Mm} {r0 : Int64} {mf : Mm} (h : f_Mo_solved N x1 x2 x3 x4 m = some (r0, mf)) : Ev xs L al d 193 [.ref 0, .int x1, .int x2, .int x3, .int x4] (m, S) (some (.long r0)) (mf, S) := by
  obtain ⟨d, rfl⟩ : ∃ e, d = e + 1 := ⟨d - 1, by omega⟩
  refine ev_of (by decide) (Nat.le_of_ble_eq_true rfl) ?_
  rw [f_Mo_solved] at h
  show RN xs L al (Ev xs L al d) 193 0 [(0, .ref 0), (1, .int x1), (2, .int x2), (3, .int x3), (4, .int x4)] [] (m, S) (some (.long r0)) (mf, S)
  refine rsn 2 (t := (2, [(0, .ref 0), (1, .int x1), (2, .int x2), (3, .int x3), (4, .int x4)], [.int x3, .ref 0])) rfl ?_
  obtain ⟨m1, g1, h⟩ := b3_some h
  refine rcV 194 0 [.int x3] rfl rfl rfl (hSh.k 0 rfl _) (Nat.le_of_ble_eq_true rfl) rfl (e_Mo_laysAll N (by omega) hSh g1) ?_
  show RN xs L al (Ev xs L al d) 193 5 [(0, .ref 0), (1, .int x1), (2, .int x2), (3, .int x3), (4, .int x4)] [] (m1, S) (some (.long r0)) (mf, S)
  refine rsn 1 (t := (6, [(0, .ref 0), (1, .int x1), (2, .int x2), (3, .int x3), (4, .int x4)], [.ref 0])) rfl ?_
  refine rgR rfl rfl rfl (hSh.k 0 rfl _) (hSh.r 18 rfl _) ?_
  refine rsn 1 (t := (10, [(0, .ref 0), (1, .int x1), (2, .int x2), (3, .int x3), (4, .int x4)], [.ref 0, .ref 19])) rfl ?_
  refine pgI rfl rfl rfl (hSh.k 0 rfl _) ?_
  show RN xs L al (Ev xs L al d) 193 13 [(0, .ref 0), (1, .int x1), (2, .int x2), (3, .int x3), (4, .int x4)] [.int ((mI m1 0 39)), .ref 19] (m1, S) (some (.long r0)) (mf, S)
  obtain ⟨c2, h⟩ := ck_some h
  refine pxI rfl (hSh.k 19 rfl _) (hSh.l 18 rfl _) c2 ?_
  show RN xs L al (Ev xs L al d) 193 14 [(0, .ref 0), (1, .int x1), (2, .int x2), (3, .int x3), (4, .int x4)] [.int ((mX m1 19 (((mI m1 0 39)).toNatClampNeg)))] (m1, S) (some (.long r0)) (mf, S)
  refine rsn 1 (t := (16, [(5, .int ((mX m1 19 (((mI m1 0 39)).toNatClampNeg)))), (0, .ref 0), (1, .int x1), (2, .int x2), (3, .int x3), (4, .int x4)], [])) rfl ?_
  have ex16 : ∀ (z3_5 : Int32) (m3 : Mm), (f_Mo_solved_L68 N x2 x3 (fun (z4_5 : Int32) (m4 : Mm) => ck (ix (0 : Int32) 160000) (f_Mo_solved_L227 N m4 (fun (z6_5 : Int64) (z6_7 : Int32) => some (z6_5, m4)) N ((mYy m4 18 ((0 : Int32).toNatClampNeg))) 1)) N ((((mI m3 0 39)) - 1)) m3) = some (r0, mf) → RN xs L al (Ev xs L al d) 193 60 [(0, .ref 0), (2, .int x2), (3, .int x3)] [] (m3, S) (some (.long r0)) (mf, S) := by
    intro z3_5 m3 h
    try dsimp only at h
    refine rsn 1 (t := (61, [(0, .ref 0), (2, .int x2), (3, .int x3)], [.ref 0])) rfl ?_
    refine pgI rfl rfl rfl (hSh.k 0 rfl _) ?_
    show RN xs L al (Ev xs L al d) 193 64 [(0, .ref 0), (2, .int x2), (3, .int x3)] [.int ((mI m3 0 39))] (m3, S) (some (.long r0)) (mf, S)
    refine rsn 3 (t := (68, [(5, .int ((((mI m3 0 39)) - 1))), (0, .ref 0), (2, .int x2), (3, .int x3)], [])) rfl ?_
    have ex68 : ∀ (z4_5 : Int32) (m4 : Mm), (ck (ix (0 : Int32) 160000) (f_Mo_solved_L227 N m4 (fun (z6_5 : Int64) (z6_7 : Int32) => some (z6_5, m4)) N ((mYy m4 18 ((0 : Int32).toNatClampNeg))) 1)) = some (r0, mf) → RN xs L al (Ev xs L al d) 193 216 [(0, .ref 0)] [] (m4, S) (some (.long r0)) (mf, S) := by
      intro z4_5 m4 h
      try dsimp only at h
      refine rsn 1 (t := (217, [(0, .ref 0)], [.ref 0])) rfl ?_
      refine rgR rfl rfl rfl (hSh.k 0 rfl _) (hSh.r 17 rfl _) ?_
      refine rsn 1 (t := (221, [(0, .ref 0)], [.int 0, .ref 18])) rfl ?_
      obtain ⟨c5, h⟩ := ck_some h
      refine pxJ rfl (hSh.k 18 rfl _) (hSh.l 17 rfl _) c5 ?_
      show RN xs L al (Ev xs L al d) 193 222 [(0, .ref 0)] [.long ((mYy m4 18 ((0 : Int32).toNatClampNeg)))] (m4, S) (some (.long r0)) (mf, S)
      refine rsn 3 (t := (227, [(7, .int 1), (5, .long ((mYy m4 18 ((0 : Int32).toNatClampNeg)))), (0, .ref 0)], [])) rfl ?_
      have ex227 : ∀ (z6_5 : Int64) (z6_7 : Int32), (some (z6_5, m4)) = some (r0, mf) → RN xs L al (Ev xs L al d) 193 271 [(5, .long z6_5)] [] (m4, S) (some (.long r0)) (mf, S) := by
        intro z6_5 z6_7 h
        try dsimp only at h
        refine rsn 1 (t := (273, [(5, .long z6_5)], [.long z6_5])) rfl ?_
        cases h
        exact rret rfl ⟨rfl, rfl, _, rfl, rfl, rfl⟩
      have lp227 : ∀ (n : Nat) (y7_5 : Int64) (y7_7 : Int32), (f_Mo_solved_L227 N m4 (fun (z6_5 : Int64) (z6_7 : Int32) => some (z6_5, m4)) n y7_5 y7_7) = some (r0, mf) → RN xs L al (Ev xs L al d) 193 227 [(0, .ref 0), (5, .long y7_5), (7, .int y7_7)] [] (m4, S) (some (.long r0)) (mf, S) := by
        intro n
        induction n with
        | zero => intro y7_5 y7_7 h; exact absurd h (by simp [f_Mo_solved_L227])
        | succ n227 ih227 =>
          intro y7_5 y7_7 h
          try dsimp only at h
          rw [f_Mo_solved_L227] at h
          try dsimp only at h
          exact rsub [(0, .ref 0), (5, .long y7_5), (7, .int y7_7)] ⟨rfl, ⟨rfl, ⟨rfl, trivial⟩⟩⟩ ⟨rfl, ⟨rfl, ⟨rfl, trivial⟩⟩⟩ (ih227 y7_5 y7_7 h)
      exact rsub [(0, .ref 0), (5, .long ((mYy m4 18 ((0 : Int32).toNatClampNeg)))), (7, .int 1)] ⟨rfl, ⟨rfl, ⟨rfl, trivial⟩⟩⟩ ⟨rfl, ⟨rfl, ⟨rfl, trivial⟩⟩⟩ (lp227 N ((mYy m4 18 ((0 : Int32).toNatClampNeg))) 1 h)
    have lp68 : ∀ (n : Nat) (y8_5 : Int32) (m8 : Mm), (f_Mo_solved_L68 N x2 x3 (fun (z4_5 : Int32) (m4 : Mm) => ck (ix (0 : Int32) 160000) (f_Mo_solved_L227 N m4 (fun (z6_5 : Int64) (z6_7 : Int32) => some (z6_5, m4)) N ((mYy m4 18 ((0 : Int32).toNatClampNeg))) 1)) n y8_5 m8) = some (r0, mf) → RN xs L al (Ev xs L al d) 193 68 [(0, .ref 0), (2, .int x2), (3, .int x3), (5, .int y8_5)] [] (m8, S) (some (.long r0)) (mf, S) := by
      intro n
      induction n with
      | zero => intro y8_5 m8 h; exact absurd h (by simp [f_Mo_solved_L68])
      | succ n68 ih68 =>
        intro y8_5 m8 h
        try dsimp only at h
        rw [f_Mo_solved_L68] at h
        try dsimp only at h
        exact rsub [(0, .ref 0), (2, .int x2), (3, .int x3), (5, .int y8_5)] ⟨rfl, ⟨rfl, ⟨rfl, ⟨rfl, trivial⟩⟩⟩⟩ ⟨rfl, ⟨rfl, ⟨rfl, ⟨rfl, trivial⟩⟩⟩⟩ (ih68 y8_5 m8 h)
    exact rsub [(0, .ref 0), (2, .int x2), (3, .int x3), (5, .int ((((mI m3 0 39)) - 1)))] ⟨rfl, ⟨rfl, ⟨rfl, ⟨rfl, trivial⟩⟩⟩⟩ ⟨rfl, ⟨rfl, ⟨rfl, ⟨rfl, trivial⟩⟩⟩⟩ (lp68 N ((((mI m3 0 39)) - 1)) m3 h)
  have lp16 : ∀ (n : Nat) (y9_5 : Int32) (m9 : Mm), (f_Mo_solved_L16 N x1 x2 x3 x4 (fun (z3_5 : Int32) (m3 : Mm) => f_Mo_solved_L68 N x2 x3 (fun (z4_5 : Int32) (m4 : Mm) => ck (ix (0 : Int32) 160000) (f_Mo_solved_L227 N m4 (fun (z6_5 : Int64) (z6_7 : Int32) => some (z6_5, m4)) N ((mYy m4 18 ((0 : Int32).toNatClampNeg))) 1)) N ((((mI m3 0 39)) - 1)) m3) n y9_5 m9) = some (r0, mf) → RN xs L al (Ev xs L al d) 193 16 [(0, .ref 0), (1, .int x1), (2, .int x2), (3, .int x3), (4, .int x4), (5, .int y9_5)] [] (m9, S) (some (.long r0)) (mf, S) := by
    intro n
    induction n with
    | zero => intro y9_5 m9 h; exact absurd h (by simp [f_Mo_solved_L16])
    | succ n16 ih16 =>
      intro y9_5 m9 h
      try dsimp only at h
      rw [f_Mo_solved_L16] at h
      try dsimp only at h
      exact rsub [(0, .ref 0), (1, .int x1), (2, .int x2), (3, .int x3), (4, .int x4), (5, .int y9_5)] ⟨rfl, ⟨rfl, ⟨rfl, ⟨rfl, ⟨rfl, ⟨rfl, trivial⟩⟩⟩⟩⟩⟩ ⟨rfl, ⟨rfl, ⟨rfl, ⟨rfl, ⟨rfl, ⟨rfl, trivial⟩⟩⟩⟩⟩⟩ (ih16 y9_5 m9 h)
  exact rsub [(0, .ref 0), (1, .int x1), (2, .int x2), (3, .int x3), (4, .int x4), (5, .int ((mX m1 19 (((mI m1 0 39)).toNatClampNeg))))] ⟨rfl, ⟨rfl, ⟨rfl, ⟨rfl, ⟨rfl, ⟨rfl, trivial⟩⟩⟩⟩⟩⟩ ⟨rfl, ⟨rfl, ⟨rfl, ⟨rfl, ⟨rfl, ⟨rfl, trivial⟩⟩⟩⟩⟩⟩ (lp16 N ((mX m1 19 (((mI m1 0 39)).toNatClampNeg))) m1 h)
