/-! The reference's methods as functions (printed by wip/whole/gen_fun.py). -/
def f_Mo_leftOut_L38 (N : Nat) (x3 : Int32) (x4 : Int32) (x5 : Int32) (x6 : Int32) (x7 : Int64) (x9 : Int32) (m : Mm) (k38 : Int32 → Int32 → Option (Int32)) : Nat → Int32 → Int32 → Option (Int32)
  | 0, _, _ => none
  | n38 + 1, x10, x11 => (if 3 ≤ x11 then k38 x10 x11 else b1 (f_Mo_things N x7 x4 x11) fun r5 => (if r5 ≤ 0 then f_Mo_leftOut_L38 N x3 x4 x5 x6 x7 x9 m k38 n38 x10 ((x11 + 1)) else (if x10 = ((-1)) then f_Mo_leftOut_L38 N x3 x4 x5 x6 x7 x9 m k38 n38 x11 ((x11 + 1)) else ck (ix ((((3 * x3)) + x11)) 9) (ck (ix ((((3 * x3)) + x10)) 9) ((if ((mX m 7 (((((3 * x3)) + x11)).toNatClampNeg))) ≤ ((mX m 7 (((((3 * x3)) + x10)).toNatClampNeg))) then f_Mo_leftOut_L38 N x3 x4 x5 x6 x7 x9 m k38 n38 x10 ((x11 + 1)) else f_Mo_leftOut_L38 N x3 x4 x5 x6 x7 x9 m k38 n38 x11 ((x11 + 1))))))))
def f_Mo_leftOut_L25 (N : Nat) (x3 : Int32) (x4 : Int32) (x5 : Int32) (m : Mm) (k25 : Int32 → Int64 → Int32 → Option (Int32)) : Nat → Int32 → Int64 → Int32 → Option (Int32)
  | 0, _, _, _ => none
  | n25 + 1, x6, x7, x9 => (if x6 ≤ x5 then k25 x6 x7 x9 else f_Mo_leftOut_L38 N x3 x4 x5 x6 x7 x9 m (fun (z11_10 : Int32) (z11_11 : Int32) => b1 (f_Mo_one N x4 z11_10) fun r12 => ck (ix ((((3 * x3)) + z11_10)) 9) (f_Mo_leftOut_L25 N x3 x4 x5 m k25 n25 ((x6 - ((mX m 7 (((((3 * x3)) + z11_10)).toNatClampNeg))))) ((x7 - r12)) ((x9 + 1)))) N ((-1)) 0)
def f_Mo_leftOut (N : Nat) (x1 : Int64) (x3 : Int32) (x4 : Int32) (m : Mm) : Option (Int32) := b1 (f_Mo_worthTo N x1 x3 x3 m) fun r1 => b1 (f_Mo_worthTo N x1 x3 x4 m) fun r2 => f_Mo_leftOut_L25 N x3 x4 r1 m (fun (z22_6 : Int32) (z22_7 : Int64) (z22_9 : Int32) => some z22_9) N r2 x1 0
set_option maxRecDepth 20000 in
set_option maxHeartbeats 4000000 in
theorem e_Mo_leftOut {xs : Nat → Int32} {L : Nat} {al : Bool} (N : Nat) {d : Nat} (hd : 3 ≤ d) {S : St} (hSh : ShR S) {x1 : Int64} {x3 : Int32} {x4 : Int32} {m : Mm} {r0 : Int32} (h : f_Mo_leftOut N x1 x3 x4 m = some r0) : Ev xs L al d 190 [.ref 0, .long x1, .int x3, .int x4] (m, S) (some (.int r0)) (m, S) := by
  obtain ⟨d, rfl⟩ : ∃ e, d = e + 1 := ⟨d - 1, by omega⟩
  refine ev_of (by decide) (Nat.le_of_ble_eq_true rfl) ?_
  rw [f_Mo_leftOut] at h
  show RN xs L al (Ev xs L al d) 190 0 [(0, .ref 0), (1, .long x1), (3, .int x3), (4, .int x4)] [] (m, S) (some (.int r0)) (m, S)
  refine rsn 4 (t := (4, [(0, .ref 0), (1, .long x1), (3, .int x3), (4, .int x4)], [.int x3, .int x3, .long x1, .ref 0])) rfl ?_
  obtain ⟨r1, g1, h⟩ := b1_some h
  refine rcV 175 0 [.long x1, .int x3, .int x3] rfl rfl rfl (hSh.k 0 rfl _) (Nat.le_of_ble_eq_true rfl) rfl (e_Mo_worthTo N (by omega) hSh g1) ?_
  show RN xs L al (Ev xs L al d) 190 7 [(0, .ref 0), (1, .long x1), (3, .int x3), (4, .int x4)] [.int r1] (m, S) (some (.int r0)) (m, S)
  refine rsn 5 (t := (14, [(5, .int r1), (0, .ref 0), (1, .long x1), (3, .int x3), (4, .int x4)], [.int x4, .int x3, .long x1, .ref 0])) rfl ?_
  obtain ⟨r2, g2, h⟩ := b1_some h
  refine rcV 175 0 [.long x1, .int x3, .int x4] rfl rfl rfl (hSh.k 0 rfl _) (Nat.le_of_ble_eq_true rfl) rfl (e_Mo_worthTo N (by omega) hSh g2) ?_
  show RN xs L al (Ev xs L al d) 190 17 [(5, .int r1), (0, .ref 0), (1, .long x1), (3, .int x3), (4, .int x4)] [.int r2] (m, S) (some (.int r0)) (m, S)
  refine rsn 5 (t := (25, [(9, .int 0), (7, .long x1), (6, .int r2), (5, .int r1), (0, .ref 0), (1, .long x1), (3, .int x3), (4, .int x4)], [])) rfl ?_
  have ex25 : ∀ (z22_6 : Int32) (z22_7 : Int64) (z22_9 : Int32), (some z22_9) = some r0 → RN xs L al (Ev xs L al d) 190 131 [(9, .int z22_9)] [] (m, S) (some (.int r0)) (m, S) := by
    intro z22_6 z22_7 z22_9 h
    try dsimp only at h
    refine rsn 1 (t := (133, [(9, .int z22_9)], [.int z22_9])) rfl ?_
    cases h
    exact rret rfl ⟨rfl, rfl, _, _, rfl, rfl, rfl, rfl⟩
  have lp25 : ∀ (n : Nat) (y23_6 : Int32) (y23_7 : Int64) (y23_9 : Int32), (f_Mo_leftOut_L25 N x3 x4 r1 m (fun (z22_6 : Int32) (z22_7 : Int64) (z22_9 : Int32) => some z22_9) n y23_6 y23_7 y23_9) = some r0 → RN xs L al (Ev xs L al d) 190 25 [(0, .ref 0), (3, .int x3), (4, .int x4), (5, .int r1), (6, .int y23_6), (7, .long y23_7), (9, .int y23_9)] [] (m, S) (some (.int r0)) (m, S) := by
    intro n
    induction n with
    | zero => intro y23_6 y23_7 y23_9 h; exact absurd h (by simp [f_Mo_leftOut_L25])
    | succ n25 ih25 =>
      intro y23_6 y23_7 y23_9 h
      try dsimp only at h
      rw [f_Mo_leftOut_L25] at h
      try dsimp only at h
      refine rsn 2 (t := (29, [(0, .ref 0), (3, .int x3), (4, .int x4), (5, .int r1), (6, .int y23_6), (7, .long y23_7), (9, .int y23_9)], [.int r1, .int y23_6])) rfl ?_
      by_cases c24 : y23_6 ≤ r1
      · rw [if_pos c24] at h
        refine rjt (a := (131, [(0, .ref 0), (3, .int x3), (4, .int x4), (5, .int r1), (6, .int y23_6), (7, .long y23_7), (9, .int y23_9)], [])) (b := (32, [(0, .ref 0), (3, .int x3), (4, .int x4), (5, .int r1), (6, .int y23_6), (7, .long y23_7), (9, .int y23_9)], [])) rfl rfl c24 ?_
        exact rsub [(9, .int y23_9)] ⟨rfl, trivial⟩ ⟨rfl, trivial⟩ (ex25 y23_6 y23_7 y23_9 h)
      · rw [if_neg c24] at h
        refine rjf (a := (131, [(0, .ref 0), (3, .int x3), (4, .int x4), (5, .int r1), (6, .int y23_6), (7, .long y23_7), (9, .int y23_9)], [])) (b := (32, [(0, .ref 0), (3, .int x3), (4, .int x4), (5, .int r1), (6, .int y23_6), (7, .long y23_7), (9, .int y23_9)], [])) rfl rfl c24 ?_
        refine rsn 4 (t := (38, [(11, .int 0), (10, .int ((-1))), (0, .ref 0), (3, .int x3), (4, .int x4), (5, .int r1), (6, .int y23_6), (7, .long y23_7), (9, .int y23_9)], [])) rfl ?_
        have ex38 : ∀ (z32_10 : Int32) (z32_11 : Int32), (b1 (f_Mo_one N x4 z32_10) fun r33 => ck (ix ((((3 * x3)) + z32_10)) 9) (f_Mo_leftOut_L25 N x3 x4 r1 m (fun (z22_6 : Int32) (z22_7 : Int64) (z22_9 : Int32) => some z22_9) n25 ((y23_6 - ((mX m 7 (((((3 * x3)) + z32_10)).toNatClampNeg))))) ((y23_7 - r33)) ((y23_9 + 1)))) = some r0 → RN xs L al (Ev xs L al d) 190 97 [(0, .ref 0), (3, .int x3), (4, .int x4), (5, .int r1), (6, .int y23_6), (7, .long y23_7), (9, .int y23_9), (10, .int z32_10)] [] (m, S) (some (.int r0)) (m, S) := by
          intro z32_10 z32_11 h
          try dsimp only at h
          refine rsn 3 (t := (103, [(0, .ref 0), (3, .int x3), (4, .int x4), (5, .int r1), (6, .int y23_6), (7, .long y23_7), (9, .int y23_9), (10, .int z32_10)], [.int z32_10, .int x4, .long y23_7])) rfl ?_
          obtain ⟨r33, g33, h⟩ := b1_some h
          refine rcS 182 [.int x4, .int z32_10] rfl rfl rfl (Nat.le_of_ble_eq_true rfl) rfl (e_Mo_one N (by omega) g33) ?_
          show RN xs L al (Ev xs L al d) 190 106 [(0, .ref 0), (3, .int x3), (4, .int x4), (5, .int r1), (6, .int y23_6), (7, .long y23_7), (9, .int y23_9), (10, .int z32_10)] [.long r33, .long y23_7] (m, S) (some (.int r0)) (m, S)
          refine rsn 4 (t := (112, [(7, .long ((y23_7 - r33))), (0, .ref 0), (3, .int x3), (4, .int x4), (5, .int r1), (6, .int y23_6), (9, .int y23_9), (10, .int z32_10)], [.ref 0, .int y23_6])) rfl ?_
          refine rgR rfl rfl rfl (hSh.k 0 rfl _) (hSh.r 6 rfl _) ?_
          refine rsn 5 (t := (121, [(7, .long ((y23_7 - r33))), (0, .ref 0), (3, .int x3), (4, .int x4), (5, .int r1), (6, .int y23_6), (9, .int y23_9), (10, .int z32_10)], [.int ((((3 * x3)) + z32_10)), .ref 7, .int y23_6])) rfl ?_
          obtain ⟨c34, h⟩ := ck_some h
          refine pxI rfl (hSh.k 7 rfl _) (hSh.l 6 rfl _) c34 ?_
          show RN xs L al (Ev xs L al d) 190 122 [(7, .long ((y23_7 - r33))), (0, .ref 0), (3, .int x3), (4, .int x4), (5, .int r1), (6, .int y23_6), (9, .int y23_9), (10, .int z32_10)] [.int ((mX m 7 (((((3 * x3)) + z32_10)).toNatClampNeg))), .int y23_6] (m, S) (some (.int r0)) (m, S)
          refine rsn 4 (t := (25, [(9, .int ((y23_9 + 1))), (6, .int ((y23_6 - ((mX m 7 (((((3 * x3)) + z32_10)).toNatClampNeg)))))), (7, .long ((y23_7 - r33))), (0, .ref 0), (3, .int x3), (4, .int x4), (5, .int r1), (10, .int z32_10)], [])) rfl ?_
          exact rsub [(0, .ref 0), (3, .int x3), (4, .int x4), (5, .int r1), (6, .int ((y23_6 - ((mX m 7 (((((3 * x3)) + z32_10)).toNatClampNeg)))))), (7, .long ((y23_7 - r33))), (9, .int ((y23_9 + 1)))] ⟨rfl, ⟨rfl, ⟨rfl, ⟨rfl, ⟨rfl, ⟨rfl, ⟨rfl, trivial⟩⟩⟩⟩⟩⟩⟩ ⟨rfl, ⟨rfl, ⟨rfl, ⟨rfl, ⟨rfl, ⟨rfl, ⟨rfl, trivial⟩⟩⟩⟩⟩⟩⟩ (ih25 ((y23_6 - ((mX m 7 (((((3 * x3)) + z32_10)).toNatClampNeg))))) ((y23_7 - r33)) ((y23_9 + 1)) h)
        have lp38 : ∀ (n : Nat) (y35_10 : Int32) (y35_11 : Int32), (f_Mo_leftOut_L38 N x3 x4 r1 y23_6 y23_7 y23_9 m (fun (z32_10 : Int32) (z32_11 : Int32) => b1 (f_Mo_one N x4 z32_10) fun r33 => ck (ix ((((3 * x3)) + z32_10)) 9) (f_Mo_leftOut_L25 N x3 x4 r1 m (fun (z22_6 : Int32) (z22_7 : Int64) (z22_9 : Int32) => some z22_9) n25 ((y23_6 - ((mX m 7 (((((3 * x3)) + z32_10)).toNatClampNeg))))) ((y23_7 - r33)) ((y23_9 + 1)))) n y35_10 y35_11) = some r0 → RN xs L al (Ev xs L al d) 190 38 [(0, .ref 0), (3, .int x3), (4, .int x4), (5, .int r1), (6, .int y23_6), (7, .long y23_7), (9, .int y23_9), (10, .int y35_10), (11, .int y35_11)] [] (m, S) (some (.int r0)) (m, S) := by
          intro n
          induction n with
          | zero => intro y35_10 y35_11 h; exact absurd h (by simp [f_Mo_leftOut_L38])
          | succ n38 ih38 =>
            intro y35_10 y35_11 h
            try dsimp only at h
            rw [f_Mo_leftOut_L38] at h
            try dsimp only at h
            refine rsn 2 (t := (41, [(0, .ref 0), (3, .int x3), (4, .int x4), (5, .int r1), (6, .int y23_6), (7, .long y23_7), (9, .int y23_9), (10, .int y35_10), (11, .int y35_11)], [.int 3, .int y35_11])) rfl ?_
            by_cases c36 : 3 ≤ y35_11
            · rw [if_pos c36] at h
              refine rjt (a := (97, [(0, .ref 0), (3, .int x3), (4, .int x4), (5, .int r1), (6, .int y23_6), (7, .long y23_7), (9, .int y23_9), (10, .int y35_10), (11, .int y35_11)], [])) (b := (44, [(0, .ref 0), (3, .int x3), (4, .int x4), (5, .int r1), (6, .int y23_6), (7, .long y23_7), (9, .int y23_9), (10, .int y35_10), (11, .int y35_11)], [])) rfl rfl c36 ?_
              exact rsub [(0, .ref 0), (3, .int x3), (4, .int x4), (5, .int r1), (6, .int y23_6), (7, .long y23_7), (9, .int y23_9), (10, .int y35_10)] ⟨rfl, ⟨rfl, ⟨rfl, ⟨rfl, ⟨rfl, ⟨rfl, ⟨rfl, ⟨rfl, trivial⟩⟩⟩⟩⟩⟩⟩⟩ ⟨rfl, ⟨rfl, ⟨rfl, ⟨rfl, ⟨rfl, ⟨rfl, ⟨rfl, ⟨rfl, trivial⟩⟩⟩⟩⟩⟩⟩⟩ (ex38 y35_10 y35_11 h)
            · rw [if_neg c36] at h
              refine rjf (a := (97, [(0, .ref 0), (3, .int x3), (4, .int x4), (5, .int r1), (6, .int y23_6), (7, .long y23_7), (9, .int y23_9), (10, .int y35_10), (11, .int y35_11)], [])) (b := (44, [(0, .ref 0), (3, .int x3), (4, .int x4), (5, .int r1), (6, .int y23_6), (7, .long y23_7), (9, .int y23_9), (10, .int y35_10), (11, .int y35_11)], [])) rfl rfl c36 ?_
              refine rsn 3 (t := (50, [(0, .ref 0), (3, .int x3), (4, .int x4), (5, .int r1), (6, .int y23_6), (7, .long y23_7), (9, .int y23_9), (10, .int y35_10), (11, .int y35_11)], [.int y35_11, .int x4, .long y23_7])) rfl ?_
              obtain ⟨r37, g37, h⟩ := b1_some h
              refine rcS 174 [.long y23_7, .int x4, .int y35_11] rfl rfl rfl (Nat.le_of_ble_eq_true rfl) rfl (e_Mo_things N (by omega) g37) ?_
              show RN xs L al (Ev xs L al d) 190 53 [(0, .ref 0), (3, .int x3), (4, .int x4), (5, .int r1), (6, .int y23_6), (7, .long y23_7), (9, .int y23_9), (10, .int y35_10), (11, .int y35_11)] [.int r37] (m, S) (some (.int r0)) (m, S)
              by_cases c38 : r37 ≤ 0
              · rw [if_pos c38] at h
                refine rjt (a := (91, [(0, .ref 0), (3, .int x3), (4, .int x4), (5, .int r1), (6, .int y23_6), (7, .long y23_7), (9, .int y23_9), (10, .int y35_10), (11, .int y35_11)], [])) (b := (56, [(0, .ref 0), (3, .int x3), (4, .int x4), (5, .int r1), (6, .int y23_6), (7, .long y23_7), (9, .int y23_9), (10, .int y35_10), (11, .int y35_11)], [])) rfl rfl c38 ?_
                refine rsn 2 (t := (38, [(11, .int ((y35_11 + 1))), (0, .ref 0), (3, .int x3), (4, .int x4), (5, .int r1), (6, .int y23_6), (7, .long y23_7), (9, .int y23_9), (10, .int y35_10)], [])) rfl ?_
                exact rsub [(0, .ref 0), (3, .int x3), (4, .int x4), (5, .int r1), (6, .int y23_6), (7, .long y23_7), (9, .int y23_9), (10, .int y35_10), (11, .int ((y35_11 + 1)))] ⟨rfl, ⟨rfl, ⟨rfl, ⟨rfl, ⟨rfl, ⟨rfl, ⟨rfl, ⟨rfl, ⟨rfl, trivial⟩⟩⟩⟩⟩⟩⟩⟩⟩ ⟨rfl, ⟨rfl, ⟨rfl, ⟨rfl, ⟨rfl, ⟨rfl, ⟨rfl, ⟨rfl, ⟨rfl, trivial⟩⟩⟩⟩⟩⟩⟩⟩⟩ (ih38 y35_10 ((y35_11 + 1)) h)
              · rw [if_neg c38] at h
                refine rjf (a := (91, [(0, .ref 0), (3, .int x3), (4, .int x4), (5, .int r1), (6, .int y23_6), (7, .long y23_7), (9, .int y23_9), (10, .int y35_10), (11, .int y35_11)], [])) (b := (56, [(0, .ref 0), (3, .int x3), (4, .int x4), (5, .int r1), (6, .int y23_6), (7, .long y23_7), (9, .int y23_9), (10, .int y35_10), (11, .int y35_11)], [])) rfl rfl c38 ?_
                refine rsn 2 (t := (59, [(0, .ref 0), (3, .int x3), (4, .int x4), (5, .int r1), (6, .int y23_6), (7, .long y23_7), (9, .int y23_9), (10, .int y35_10), (11, .int y35_11)], [.int ((-1)), .int y35_10])) rfl ?_
                by_cases c39 : y35_10 = ((-1))
                · rw [if_pos c39] at h
                  refine rjt (a := (87, [(0, .ref 0), (3, .int x3), (4, .int x4), (5, .int r1), (6, .int y23_6), (7, .long y23_7), (9, .int y23_9), (10, .int y35_10), (11, .int y35_11)], [])) (b := (62, [(0, .ref 0), (3, .int x3), (4, .int x4), (5, .int r1), (6, .int y23_6), (7, .long y23_7), (9, .int y23_9), (10, .int y35_10), (11, .int y35_11)], [])) rfl rfl c39 ?_
                  refine rsn 4 (t := (38, [(11, .int ((y35_11 + 1))), (10, .int y35_11), (0, .ref 0), (3, .int x3), (4, .int x4), (5, .int r1), (6, .int y23_6), (7, .long y23_7), (9, .int y23_9)], [])) rfl ?_
                  exact rsub [(0, .ref 0), (3, .int x3), (4, .int x4), (5, .int r1), (6, .int y23_6), (7, .long y23_7), (9, .int y23_9), (10, .int y35_11), (11, .int ((y35_11 + 1)))] ⟨rfl, ⟨rfl, ⟨rfl, ⟨rfl, ⟨rfl, ⟨rfl, ⟨rfl, ⟨rfl, ⟨rfl, trivial⟩⟩⟩⟩⟩⟩⟩⟩⟩ ⟨rfl, ⟨rfl, ⟨rfl, ⟨rfl, ⟨rfl, ⟨rfl, ⟨rfl, ⟨rfl, ⟨rfl, trivial⟩⟩⟩⟩⟩⟩⟩⟩⟩ (ih38 y35_11 ((y35_11 + 1)) h)
                · rw [if_neg c39] at h
                  refine rjf (a := (87, [(0, .ref 0), (3, .int x3), (4, .int x4), (5, .int r1), (6, .int y23_6), (7, .long y23_7), (9, .int y23_9), (10, .int y35_10), (11, .int y35_11)], [])) (b := (62, [(0, .ref 0), (3, .int x3), (4, .int x4), (5, .int r1), (6, .int y23_6), (7, .long y23_7), (9, .int y23_9), (10, .int y35_10), (11, .int y35_11)], [])) rfl rfl c39 ?_
                  refine rsn 1 (t := (63, [(0, .ref 0), (3, .int x3), (4, .int x4), (5, .int r1), (6, .int y23_6), (7, .long y23_7), (9, .int y23_9), (10, .int y35_10), (11, .int y35_11)], [.ref 0])) rfl ?_
                  refine rgR rfl rfl rfl (hSh.k 0 rfl _) (hSh.r 6 rfl _) ?_
                  refine rsn 5 (t := (72, [(0, .ref 0), (3, .int x3), (4, .int x4), (5, .int r1), (6, .int y23_6), (7, .long y23_7), (9, .int y23_9), (10, .int y35_10), (11, .int y35_11)], [.int ((((3 * x3)) + y35_11)), .ref 7])) rfl ?_
                  obtain ⟨c40, h⟩ := ck_some h
                  refine pxI rfl (hSh.k 7 rfl _) (hSh.l 6 rfl _) c40 ?_
                  show RN xs L al (Ev xs L al d) 190 73 [(0, .ref 0), (3, .int x3), (4, .int x4), (5, .int r1), (6, .int y23_6), (7, .long y23_7), (9, .int y23_9), (10, .int y35_10), (11, .int y35_11)] [.int ((mX m 7 (((((3 * x3)) + y35_11)).toNatClampNeg)))] (m, S) (some (.int r0)) (m, S)
                  refine rsn 1 (t := (74, [(0, .ref 0), (3, .int x3), (4, .int x4), (5, .int r1), (6, .int y23_6), (7, .long y23_7), (9, .int y23_9), (10, .int y35_10), (11, .int y35_11)], [.ref 0, .int ((mX m 7 (((((3 * x3)) + y35_11)).toNatClampNeg)))])) rfl ?_
                  refine rgR rfl rfl rfl (hSh.k 0 rfl _) (hSh.r 6 rfl _) ?_
                  refine rsn 5 (t := (83, [(0, .ref 0), (3, .int x3), (4, .int x4), (5, .int r1), (6, .int y23_6), (7, .long y23_7), (9, .int y23_9), (10, .int y35_10), (11, .int y35_11)], [.int ((((3 * x3)) + y35_10)), .ref 7, .int ((mX m 7 (((((3 * x3)) + y35_11)).toNatClampNeg)))])) rfl ?_
                  obtain ⟨c41, h⟩ := ck_some h
                  refine pxI rfl (hSh.k 7 rfl _) (hSh.l 6 rfl _) c41 ?_
                  show RN xs L al (Ev xs L al d) 190 84 [(0, .ref 0), (3, .int x3), (4, .int x4), (5, .int r1), (6, .int y23_6), (7, .long y23_7), (9, .int y23_9), (10, .int y35_10), (11, .int y35_11)] [.int ((mX m 7 (((((3 * x3)) + y35_10)).toNatClampNeg))), .int ((mX m 7 (((((3 * x3)) + y35_11)).toNatClampNeg)))] (m, S) (some (.int r0)) (m, S)
                  by_cases c42 : ((mX m 7 (((((3 * x3)) + y35_11)).toNatClampNeg))) ≤ ((mX m 7 (((((3 * x3)) + y35_10)).toNatClampNeg)))
                  · rw [if_pos c42] at h
                    refine rjt (a := (91, [(0, .ref 0), (3, .int x3), (4, .int x4), (5, .int r1), (6, .int y23_6), (7, .long y23_7), (9, .int y23_9), (10, .int y35_10), (11, .int y35_11)], [])) (b := (87, [(0, .ref 0), (3, .int x3), (4, .int x4), (5, .int r1), (6, .int y23_6), (7, .long y23_7), (9, .int y23_9), (10, .int y35_10), (11, .int y35_11)], [])) rfl rfl c42 ?_
                    refine rsn 2 (t := (38, [(11, .int ((y35_11 + 1))), (0, .ref 0), (3, .int x3), (4, .int x4), (5, .int r1), (6, .int y23_6), (7, .long y23_7), (9, .int y23_9), (10, .int y35_10)], [])) rfl ?_
                    exact rsub [(0, .ref 0), (3, .int x3), (4, .int x4), (5, .int r1), (6, .int y23_6), (7, .long y23_7), (9, .int y23_9), (10, .int y35_10), (11, .int ((y35_11 + 1)))] ⟨rfl, ⟨rfl, ⟨rfl, ⟨rfl, ⟨rfl, ⟨rfl, ⟨rfl, ⟨rfl, ⟨rfl, trivial⟩⟩⟩⟩⟩⟩⟩⟩⟩ ⟨rfl, ⟨rfl, ⟨rfl, ⟨rfl, ⟨rfl, ⟨rfl, ⟨rfl, ⟨rfl, ⟨rfl, trivial⟩⟩⟩⟩⟩⟩⟩⟩⟩ (ih38 y35_10 ((y35_11 + 1)) h)
                  · rw [if_neg c42] at h
                    refine rjf (a := (91, [(0, .ref 0), (3, .int x3), (4, .int x4), (5, .int r1), (6, .int y23_6), (7, .long y23_7), (9, .int y23_9), (10, .int y35_10), (11, .int y35_11)], [])) (b := (87, [(0, .ref 0), (3, .int x3), (4, .int x4), (5, .int r1), (6, .int y23_6), (7, .long y23_7), (9, .int y23_9), (10, .int y35_10), (11, .int y35_11)], [])) rfl rfl c42 ?_
                    refine rsn 4 (t := (38, [(11, .int ((y35_11 + 1))), (10, .int y35_11), (0, .ref 0), (3, .int x3), (4, .int x4), (5, .int r1), (6, .int y23_6), (7, .long y23_7), (9, .int y23_9)], [])) rfl ?_
                    exact rsub [(0, .ref 0), (3, .int x3), (4, .int x4), (5, .int r1), (6, .int y23_6), (7, .long y23_7), (9, .int y23_9), (10, .int y35_11), (11, .int ((y35_11 + 1)))] ⟨rfl, ⟨rfl, ⟨rfl, ⟨rfl, ⟨rfl, ⟨rfl, ⟨rfl, ⟨rfl, ⟨rfl, trivial⟩⟩⟩⟩⟩⟩⟩⟩⟩ ⟨rfl, ⟨rfl, ⟨rfl, ⟨rfl, ⟨rfl, ⟨rfl, ⟨rfl, ⟨rfl, ⟨rfl, trivial⟩⟩⟩⟩⟩⟩⟩⟩⟩ (ih38 y35_11 ((y35_11 + 1)) h)
        exact rsub [(0, .ref 0), (3, .int x3), (4, .int x4), (5, .int r1), (6, .int y23_6), (7, .long y23_7), (9, .int y23_9), (10, .int ((-1))), (11, .int 0)] ⟨rfl, ⟨rfl, ⟨rfl, ⟨rfl, ⟨rfl, ⟨rfl, ⟨rfl, ⟨rfl, ⟨rfl, trivial⟩⟩⟩⟩⟩⟩⟩⟩⟩ ⟨rfl, ⟨rfl, ⟨rfl, ⟨rfl, ⟨rfl, ⟨rfl, ⟨rfl, ⟨rfl, ⟨rfl, trivial⟩⟩⟩⟩⟩⟩⟩⟩⟩ (lp38 N ((-1)) 0 h)
  exact rsub [(0, .ref 0), (3, .int x3), (4, .int x4), (5, .int r1), (6, .int r2), (7, .long x1), (9, .int 0)] ⟨rfl, ⟨rfl, ⟨rfl, ⟨rfl, ⟨rfl, ⟨rfl, ⟨rfl, trivial⟩⟩⟩⟩⟩⟩⟩ ⟨rfl, ⟨rfl, ⟨rfl, ⟨rfl, ⟨rfl, ⟨rfl, ⟨rfl, trivial⟩⟩⟩⟩⟩⟩⟩ (lp25 N r2 x1 0 h)
def f_Mo_goalOf_L56 (N : Nat) (x1 : Int64) (x3 : Int32) (x5 : Int32) (m : Mm) (k56 : Int32 → Int32 → Option (Int32)) : Nat → Int32 → Int32 → Option (Int32)
  | 0, _, _ => none
  | n56 + 1, x4, x6 => (if 3 ≤ x6 then k56 x4 x6 else (if x3 = 1 then (jn (fun (s8 : Int32) => (if s8 ≤ x4 then f_Mo_goalOf_L56 N x1 x3 x5 m k56 n56 x4 ((x6 + 1)) else f_Mo_goalOf_L56 N x1 x3 x5 m k56 n56 s8 ((x6 + 1)))) (fun j96 => jn (fun (_ : Unit) => j96 0) (fun j95 => if x6 = x5 then j95 () else b1 (f_Mo_hasCome N x1 x6) fun r11 => (if r11 = 0 then j95 () else b1 (f_Mo_leftOut N x1 x5 x6 m) fun r13 => j96 r13)))) else k56 x4 x6))
def f_Mo_goalOf_L16 (N : Nat) (x1 : Int64) (x3 : Int32) (m : Mm) (k16 : Int32 → Int32 → Option (Int32)) : Nat → Int32 → Int32 → Option (Int32)
  | 0, _, _ => none
  | n16 + 1, x4, x5 => (if 3 ≤ x5 then k16 x4 x5 else b1 (f_Mo_hasCome N x1 x5) fun r3 => (if r3 = 0 then f_Mo_goalOf_L16 N x1 x3 m k16 n16 x4 ((x5 + 1)) else (jn (fun (y5 : Int32) => f_Mo_goalOf_L56 N x1 x3 x5 m (fun (z14_4 : Int32) (z14_6 : Int32) => f_Mo_goalOf_L16 N x1 x3 m k16 n16 z14_4 ((x5 + 1))) N y5 0) (fun j53 => if x3 = 2 then b1 (f_Mo_worthTo N x1 x5 x5 m) fun r25 => j53 ((x4 + r25)) else j53 x4))))
def f_Mo_goalOf (N : Nat) (x1 : Int64) (x3 : Int32) (m : Mm) : Option (Int32) := (if x3 = 0 then b1 (f_Mo_share N x1 m) fun r53 => some r53 else f_Mo_goalOf_L16 N x1 x3 m (fun (z26_4 : Int32) (z26_5 : Int32) => (if x3 = 1 then some ((-z26_4)) else some z26_4)) N 0 0)
set_option maxRecDepth 20000 in
set_option maxHeartbeats 4000000 in
theorem e_Mo_goalOf {xs : Nat → Int32} {L : Nat} {al : Bool} (N : Nat) {d : Nat} (hd : 4 ≤ d) {S : St} (hSh : ShR S) {x1 : Int64} {x3 : Int32} {m : Mm} {r0 : Int32} (h : f_Mo_goalOf N x1 x3 m = some r0) : Ev xs L al d 187 [.ref 0, .long x1, .int x3] (m, S) (some (.int r0)) (m, S) := by
  obtain ⟨d, rfl⟩ : ∃ e, d = e + 1 := ⟨d - 1, by omega⟩
  refine ev_of (by decide) (Nat.le_of_ble_eq_true rfl) ?_
  rw [f_Mo_goalOf] at h
  show RN xs L al (Ev xs L al d) 187 0 [(0, .ref 0), (1, .long x1), (3, .int x3)] [] (m, S) (some (.int r0)) (m, S)
  refine rsn 1 (t := (1, [(0, .ref 0), (1, .long x1), (3, .int x3)], [.int x3])) rfl ?_
  by_cases c1 : x3 = 0
  · rw [if_pos c1] at h
    refine rjf (a := (10, [(0, .ref 0), (1, .long x1), (3, .int x3)], [])) (b := (4, [(0, .ref 0), (1, .long x1), (3, .int x3)], [])) rfl rfl (fun q => q c1) ?_
    refine rsn 2 (t := (6, [(0, .ref 0), (1, .long x1), (3, .int x3)], [.long x1, .ref 0])) rfl ?_
    obtain ⟨r53, g53, h⟩ := b1_some h
    refine rcV 188 0 [.long x1] rfl rfl rfl (hSh.k 0 rfl _) (Nat.le_of_ble_eq_true rfl) rfl (e_Mo_share N (by omega) hSh g53) ?_
    show RN xs L al (Ev xs L al d) 187 9 [(0, .ref 0), (1, .long x1), (3, .int x3)] [.int r53] (m, S) (some (.int r0)) (m, S)
    cases h
    exact rret rfl ⟨rfl, rfl, _, _, rfl, rfl, rfl, rfl⟩
  · rw [if_neg c1] at h
    refine rjt (a := (10, [(0, .ref 0), (1, .long x1), (3, .int x3)], [])) (b := (4, [(0, .ref 0), (1, .long x1), (3, .int x3)], [])) rfl rfl c1 ?_
    refine rsn 4 (t := (16, [(5, .int 0), (4, .int 0), (0, .ref 0), (1, .long x1), (3, .int x3)], [])) rfl ?_
    have ex16 : ∀ (z26_4 : Int32) (z26_5 : Int32), ((if x3 = 1 then some ((-z26_4)) else some z26_4)) = some r0 → RN xs L al (Ev xs L al d) 187 126 [(3, .int x3), (4, .int z26_4)] [] (m, S) (some (.int r0)) (m, S) := by
      intro z26_4 z26_5 h
      try dsimp only at h
      refine rsn 2 (t := (128, [(3, .int x3), (4, .int z26_4)], [.int 1, .int x3])) rfl ?_
      by_cases c27 : x3 = 1
      · rw [if_pos c27] at h
        refine rjf (a := (137, [(3, .int x3), (4, .int z26_4)], [])) (b := (131, [(3, .int x3), (4, .int z26_4)], [])) rfl rfl (fun q => q c27) ?_
        refine rsn 3 (t := (139, [(3, .int x3), (4, .int z26_4)], [.int ((-z26_4))])) rfl ?_
        cases h
        exact rret rfl ⟨rfl, rfl, _, _, rfl, rfl, rfl, rfl⟩
      · rw [if_neg c27] at h
        refine rjt (a := (137, [(3, .int x3), (4, .int z26_4)], [])) (b := (131, [(3, .int x3), (4, .int z26_4)], [])) rfl rfl c27 ?_
        refine rsn 1 (t := (139, [(3, .int x3), (4, .int z26_4)], [.int z26_4])) rfl ?_
        cases h
        exact rret rfl ⟨rfl, rfl, _, _, rfl, rfl, rfl, rfl⟩
    have lp16 : ∀ (n : Nat) (y28_4 : Int32) (y28_5 : Int32), (f_Mo_goalOf_L16 N x1 x3 m (fun (z26_4 : Int32) (z26_5 : Int32) => (if x3 = 1 then some ((-z26_4)) else some z26_4)) n y28_4 y28_5) = some r0 → RN xs L al (Ev xs L al d) 187 16 [(0, .ref 0), (1, .long x1), (3, .int x3), (4, .int y28_4), (5, .int y28_5)] [] (m, S) (some (.int r0)) (m, S) := by
      intro n
      induction n with
      | zero => intro y28_4 y28_5 h; exact absurd h (by simp [f_Mo_goalOf_L16])
      | succ n16 ih16 =>
        intro y28_4 y28_5 h
        try dsimp only at h
        rw [f_Mo_goalOf_L16] at h
        try dsimp only at h
        refine rsn 2 (t := (19, [(0, .ref 0), (1, .long x1), (3, .int x3), (4, .int y28_4), (5, .int y28_5)], [.int 3, .int y28_5])) rfl ?_
        by_cases c29 : 3 ≤ y28_5
        · rw [if_pos c29] at h
          refine rjt (a := (126, [(0, .ref 0), (1, .long x1), (3, .int x3), (4, .int y28_4), (5, .int y28_5)], [])) (b := (22, [(0, .ref 0), (1, .long x1), (3, .int x3), (4, .int y28_4), (5, .int y28_5)], [])) rfl rfl c29 ?_
          exact rsub [(3, .int x3), (4, .int y28_4)] ⟨rfl, ⟨rfl, trivial⟩⟩ ⟨rfl, ⟨rfl, trivial⟩⟩ (ex16 y28_4 y28_5 h)
        · rw [if_neg c29] at h
          refine rjf (a := (126, [(0, .ref 0), (1, .long x1), (3, .int x3), (4, .int y28_4), (5, .int y28_5)], [])) (b := (22, [(0, .ref 0), (1, .long x1), (3, .int x3), (4, .int y28_4), (5, .int y28_5)], [])) rfl rfl c29 ?_
          refine rsn 2 (t := (25, [(0, .ref 0), (1, .long x1), (3, .int x3), (4, .int y28_4), (5, .int y28_5)], [.int y28_5, .long x1])) rfl ?_
          obtain ⟨r30, g30, h⟩ := b1_some h
          refine rcS 173 [.long x1, .int y28_5] rfl rfl rfl (Nat.le_of_ble_eq_true rfl) rfl (e_Mo_hasCome N (by omega) g30) ?_
          show RN xs L al (Ev xs L al d) 187 28 [(0, .ref 0), (1, .long x1), (3, .int x3), (4, .int y28_4), (5, .int y28_5)] [.int r30] (m, S) (some (.int r0)) (m, S)
          by_cases c31 : r30 = 0
          · rw [if_pos c31] at h
            refine rjf (a := (34, [(0, .ref 0), (1, .long x1), (3, .int x3), (4, .int y28_4), (5, .int y28_5)], [])) (b := (31, [(0, .ref 0), (1, .long x1), (3, .int x3), (4, .int y28_4), (5, .int y28_5)], [])) rfl rfl (fun q => q c31) ?_
            refine rsn 3 (t := (16, [(5, .int ((y28_5 + 1))), (0, .ref 0), (1, .long x1), (3, .int x3), (4, .int y28_4)], [])) rfl ?_
            exact rsub [(0, .ref 0), (1, .long x1), (3, .int x3), (4, .int y28_4), (5, .int ((y28_5 + 1)))] ⟨rfl, ⟨rfl, ⟨rfl, ⟨rfl, ⟨rfl, trivial⟩⟩⟩⟩⟩ ⟨rfl, ⟨rfl, ⟨rfl, ⟨rfl, ⟨rfl, trivial⟩⟩⟩⟩⟩ (ih16 y28_4 ((y28_5 + 1)) h)
          · rw [if_neg c31] at h
            refine rjt (a := (34, [(0, .ref 0), (1, .long x1), (3, .int x3), (4, .int y28_4), (5, .int y28_5)], [])) (b := (31, [(0, .ref 0), (1, .long x1), (3, .int x3), (4, .int y28_4), (5, .int y28_5)], [])) rfl rfl c31 ?_
            refine rsn 2 (t := (36, [(0, .ref 0), (1, .long x1), (3, .int x3), (4, .int y28_4), (5, .int y28_5)], [.int 2, .int x3])) rfl ?_
            have jp53 : ∀ (y32 : Int32), (f_Mo_goalOf_L56 N x1 x3 y28_5 m (fun (z41_4 : Int32) (z41_6 : Int32) => f_Mo_goalOf_L16 N x1 x3 m (fun (z26_4 : Int32) (z26_5 : Int32) => (if x3 = 1 then some ((-z26_4)) else some z26_4)) n16 z41_4 ((y28_5 + 1))) N y32 0) = some r0 → RN xs L al (Ev xs L al d) 187 53 [(0, .ref 0), (1, .long x1), (3, .int x3), (4, .int y32), (5, .int y28_5)] [] (m, S) (some (.int r0)) (m, S) := by
              intro y32 h
              try dsimp only at h
              refine rsn 2 (t := (56, [(6, .int 0), (0, .ref 0), (1, .long x1), (3, .int x3), (4, .int y32), (5, .int y28_5)], [])) rfl ?_
              have ex56 : ∀ (z41_4 : Int32) (z41_6 : Int32), (f_Mo_goalOf_L16 N x1 x3 m (fun (z26_4 : Int32) (z26_5 : Int32) => (if x3 = 1 then some ((-z26_4)) else some z26_4)) n16 z41_4 ((y28_5 + 1))) = some r0 → RN xs L al (Ev xs L al d) 187 120 [(0, .ref 0), (1, .long x1), (3, .int x3), (4, .int z41_4), (5, .int y28_5)] [] (m, S) (some (.int r0)) (m, S) := by
                intro z41_4 z41_6 h
                try dsimp only at h
                refine rsn 2 (t := (16, [(5, .int ((y28_5 + 1))), (0, .ref 0), (1, .long x1), (3, .int x3), (4, .int z41_4)], [])) rfl ?_
                exact rsub [(0, .ref 0), (1, .long x1), (3, .int x3), (4, .int z41_4), (5, .int ((y28_5 + 1)))] ⟨rfl, ⟨rfl, ⟨rfl, ⟨rfl, ⟨rfl, trivial⟩⟩⟩⟩⟩ ⟨rfl, ⟨rfl, ⟨rfl, ⟨rfl, ⟨rfl, trivial⟩⟩⟩⟩⟩ (ih16 z41_4 ((y28_5 + 1)) h)
              have lp56 : ∀ (n : Nat) (y42_4 : Int32) (y42_6 : Int32), (f_Mo_goalOf_L56 N x1 x3 y28_5 m (fun (z41_4 : Int32) (z41_6 : Int32) => f_Mo_goalOf_L16 N x1 x3 m (fun (z26_4 : Int32) (z26_5 : Int32) => (if x3 = 1 then some ((-z26_4)) else some z26_4)) n16 z41_4 ((y28_5 + 1))) n y42_4 y42_6) = some r0 → RN xs L al (Ev xs L al d) 187 56 [(0, .ref 0), (1, .long x1), (3, .int x3), (4, .int y42_4), (5, .int y28_5), (6, .int y42_6)] [] (m, S) (some (.int r0)) (m, S) := by
                intro n
                induction n with
                | zero => intro y42_4 y42_6 h; exact absurd h (by simp [f_Mo_goalOf_L56])
                | succ n56 ih56 =>
                  intro y42_4 y42_6 h
                  try dsimp only at h
                  rw [f_Mo_goalOf_L56] at h
                  try dsimp only at h
                  refine rsn 2 (t := (59, [(0, .ref 0), (1, .long x1), (3, .int x3), (4, .int y42_4), (5, .int y28_5), (6, .int y42_6)], [.int 3, .int y42_6])) rfl ?_
                  by_cases c43 : 3 ≤ y42_6
                  · rw [if_pos c43] at h
                    refine rjt (a := (120, [(0, .ref 0), (1, .long x1), (3, .int x3), (4, .int y42_4), (5, .int y28_5), (6, .int y42_6)], [])) (b := (62, [(0, .ref 0), (1, .long x1), (3, .int x3), (4, .int y42_4), (5, .int y28_5), (6, .int y42_6)], [])) rfl rfl c43 ?_
                    exact rsub [(0, .ref 0), (1, .long x1), (3, .int x3), (4, .int y42_4), (5, .int y28_5)] ⟨rfl, ⟨rfl, ⟨rfl, ⟨rfl, ⟨rfl, trivial⟩⟩⟩⟩⟩ ⟨rfl, ⟨rfl, ⟨rfl, ⟨rfl, ⟨rfl, trivial⟩⟩⟩⟩⟩ (ex56 y42_4 y42_6 h)
                  · rw [if_neg c43] at h
                    refine rjf (a := (120, [(0, .ref 0), (1, .long x1), (3, .int x3), (4, .int y42_4), (5, .int y28_5), (6, .int y42_6)], [])) (b := (62, [(0, .ref 0), (1, .long x1), (3, .int x3), (4, .int y42_4), (5, .int y28_5), (6, .int y42_6)], [])) rfl rfl c43 ?_
                    refine rsn 2 (t := (64, [(0, .ref 0), (1, .long x1), (3, .int x3), (4, .int y42_4), (5, .int y28_5), (6, .int y42_6)], [.int 1, .int x3])) rfl ?_
                    by_cases c44 : x3 = 1
                    · rw [if_pos c44] at h
                      refine rjf (a := (120, [(0, .ref 0), (1, .long x1), (3, .int x3), (4, .int y42_4), (5, .int y28_5), (6, .int y42_6)], [])) (b := (67, [(0, .ref 0), (1, .long x1), (3, .int x3), (4, .int y42_4), (5, .int y28_5), (6, .int y42_6)], [])) rfl rfl (fun q => q c44) ?_
                      refine rsn 2 (t := (71, [(0, .ref 0), (1, .long x1), (3, .int x3), (4, .int y42_4), (5, .int y28_5), (6, .int y42_6)], [.int y28_5, .int y42_6])) rfl ?_
                      have jp96 : ∀ (s45 : Int32), ((if s45 ≤ y42_4 then f_Mo_goalOf_L56 N x1 x3 y28_5 m (fun (z41_4 : Int32) (z41_6 : Int32) => f_Mo_goalOf_L16 N x1 x3 m (fun (z26_4 : Int32) (z26_5 : Int32) => (if x3 = 1 then some ((-z26_4)) else some z26_4)) n16 z41_4 ((y28_5 + 1))) n56 y42_4 ((y42_6 + 1)) else f_Mo_goalOf_L56 N x1 x3 y28_5 m (fun (z41_4 : Int32) (z41_6 : Int32) => f_Mo_goalOf_L16 N x1 x3 m (fun (z26_4 : Int32) (z26_5 : Int32) => (if x3 = 1 then some ((-z26_4)) else some z26_4)) n16 z41_4 ((y28_5 + 1))) n56 s45 ((y42_6 + 1)))) = some r0 → RN xs L al (Ev xs L al d) 187 96 [(0, .ref 0), (1, .long x1), (3, .int x3), (4, .int y42_4), (5, .int y28_5), (6, .int y42_6)] [.int s45] (m, S) (some (.int r0)) (m, S) := by
                        intro s45 h
                        try dsimp only at h
                        refine rsn 3 (t := (102, [(7, .int s45), (0, .ref 0), (1, .long x1), (3, .int x3), (4, .int y42_4), (5, .int y28_5), (6, .int y42_6)], [.int y42_4, .int s45])) rfl ?_
                        by_cases c46 : s45 ≤ y42_4
                        · rw [if_pos c46] at h
                          refine rjt (a := (110, [(7, .int s45), (0, .ref 0), (1, .long x1), (3, .int x3), (4, .int y42_4), (5, .int y28_5), (6, .int y42_6)], [])) (b := (105, [(7, .int s45), (0, .ref 0), (1, .long x1), (3, .int x3), (4, .int y42_4), (5, .int y28_5), (6, .int y42_6)], [])) rfl rfl c46 ?_
                          refine rsn 4 (t := (56, [(6, .int ((y42_6 + 1))), (4, .int y42_4), (7, .int s45), (0, .ref 0), (1, .long x1), (3, .int x3), (5, .int y28_5)], [])) rfl ?_
                          exact rsub [(0, .ref 0), (1, .long x1), (3, .int x3), (4, .int y42_4), (5, .int y28_5), (6, .int ((y42_6 + 1)))] ⟨rfl, ⟨rfl, ⟨rfl, ⟨rfl, ⟨rfl, ⟨rfl, trivial⟩⟩⟩⟩⟩⟩ ⟨rfl, ⟨rfl, ⟨rfl, ⟨rfl, ⟨rfl, ⟨rfl, trivial⟩⟩⟩⟩⟩⟩ (ih56 y42_4 ((y42_6 + 1)) h)
                        · rw [if_neg c46] at h
                          refine rjf (a := (110, [(7, .int s45), (0, .ref 0), (1, .long x1), (3, .int x3), (4, .int y42_4), (5, .int y28_5), (6, .int y42_6)], [])) (b := (105, [(7, .int s45), (0, .ref 0), (1, .long x1), (3, .int x3), (4, .int y42_4), (5, .int y28_5), (6, .int y42_6)], [])) rfl rfl c46 ?_
                          refine rsn 5 (t := (56, [(6, .int ((y42_6 + 1))), (4, .int s45), (7, .int s45), (0, .ref 0), (1, .long x1), (3, .int x3), (5, .int y28_5)], [])) rfl ?_
                          exact rsub [(0, .ref 0), (1, .long x1), (3, .int x3), (4, .int s45), (5, .int y28_5), (6, .int ((y42_6 + 1)))] ⟨rfl, ⟨rfl, ⟨rfl, ⟨rfl, ⟨rfl, ⟨rfl, trivial⟩⟩⟩⟩⟩⟩ ⟨rfl, ⟨rfl, ⟨rfl, ⟨rfl, ⟨rfl, ⟨rfl, trivial⟩⟩⟩⟩⟩⟩ (ih56 s45 ((y42_6 + 1)) h)
                      rw [jn] at h
                      try dsimp only at h
                      have jp95 : ∀ (_ : Unit), (((fun j96 => j96 0) (fun (s45 : Int32) => (if s45 ≤ y42_4 then f_Mo_goalOf_L56 N x1 x3 y28_5 m (fun (z41_4 : Int32) (z41_6 : Int32) => f_Mo_goalOf_L16 N x1 x3 m (fun (z26_4 : Int32) (z26_5 : Int32) => (if x3 = 1 then some ((-z26_4)) else some z26_4)) n16 z41_4 ((y28_5 + 1))) n56 y42_4 ((y42_6 + 1)) else f_Mo_goalOf_L56 N x1 x3 y28_5 m (fun (z41_4 : Int32) (z41_6 : Int32) => f_Mo_goalOf_L16 N x1 x3 m (fun (z26_4 : Int32) (z26_5 : Int32) => (if x3 = 1 then some ((-z26_4)) else some z26_4)) n16 z41_4 ((y28_5 + 1))) n56 s45 ((y42_6 + 1)))))) = some r0 → RN xs L al (Ev xs L al d) 187 95 [(0, .ref 0), (1, .long x1), (3, .int x3), (4, .int y42_4), (5, .int y28_5), (6, .int y42_6)] [] (m, S) (some (.int r0)) (m, S) := by
                        intro _ h
                        try dsimp only at h
                        refine rsn 1 (t := (96, [(0, .ref 0), (1, .long x1), (3, .int x3), (4, .int y42_4), (5, .int y28_5), (6, .int y42_6)], [.int 0])) rfl ?_
                        exact rsub [(0, .ref 0), (1, .long x1), (3, .int x3), (4, .int y42_4), (5, .int y28_5), (6, .int y42_6)] ⟨rfl, ⟨rfl, ⟨rfl, ⟨rfl, ⟨rfl, ⟨rfl, trivial⟩⟩⟩⟩⟩⟩ ⟨rfl, ⟨rfl, ⟨rfl, ⟨rfl, ⟨rfl, ⟨rfl, trivial⟩⟩⟩⟩⟩⟩ (jp96 0 h)
                      rw [jn] at h
                      try dsimp only at h
                      by_cases c47 : y42_6 = y28_5
                      · rw [if_pos c47] at h
                        refine rjt (a := (95, [(0, .ref 0), (1, .long x1), (3, .int x3), (4, .int y42_4), (5, .int y28_5), (6, .int y42_6)], [])) (b := (74, [(0, .ref 0), (1, .long x1), (3, .int x3), (4, .int y42_4), (5, .int y28_5), (6, .int y42_6)], [])) rfl rfl c47 ?_
                        exact rsub [(0, .ref 0), (1, .long x1), (3, .int x3), (4, .int y42_4), (5, .int y28_5), (6, .int y42_6)] ⟨rfl, ⟨rfl, ⟨rfl, ⟨rfl, ⟨rfl, ⟨rfl, trivial⟩⟩⟩⟩⟩⟩ ⟨rfl, ⟨rfl, ⟨rfl, ⟨rfl, ⟨rfl, ⟨rfl, trivial⟩⟩⟩⟩⟩⟩ (jp95 () h)
                      · rw [if_neg c47] at h
                        refine rjf (a := (95, [(0, .ref 0), (1, .long x1), (3, .int x3), (4, .int y42_4), (5, .int y28_5), (6, .int y42_6)], [])) (b := (74, [(0, .ref 0), (1, .long x1), (3, .int x3), (4, .int y42_4), (5, .int y28_5), (6, .int y42_6)], [])) rfl rfl c47 ?_
                        refine rsn 2 (t := (77, [(0, .ref 0), (1, .long x1), (3, .int x3), (4, .int y42_4), (5, .int y28_5), (6, .int y42_6)], [.int y42_6, .long x1])) rfl ?_
                        obtain ⟨r48, g48, h⟩ := b1_some h
                        refine rcS 173 [.long x1, .int y42_6] rfl rfl rfl (Nat.le_of_ble_eq_true rfl) rfl (e_Mo_hasCome N (by omega) g48) ?_
                        show RN xs L al (Ev xs L al d) 187 80 [(0, .ref 0), (1, .long x1), (3, .int x3), (4, .int y42_4), (5, .int y28_5), (6, .int y42_6)] [.int r48] (m, S) (some (.int r0)) (m, S)
                        by_cases c49 : r48 = 0
                        · rw [if_pos c49] at h
                          refine rjt (a := (95, [(0, .ref 0), (1, .long x1), (3, .int x3), (4, .int y42_4), (5, .int y28_5), (6, .int y42_6)], [])) (b := (83, [(0, .ref 0), (1, .long x1), (3, .int x3), (4, .int y42_4), (5, .int y28_5), (6, .int y42_6)], [])) rfl rfl c49 ?_
                          exact rsub [(0, .ref 0), (1, .long x1), (3, .int x3), (4, .int y42_4), (5, .int y28_5), (6, .int y42_6)] ⟨rfl, ⟨rfl, ⟨rfl, ⟨rfl, ⟨rfl, ⟨rfl, trivial⟩⟩⟩⟩⟩⟩ ⟨rfl, ⟨rfl, ⟨rfl, ⟨rfl, ⟨rfl, ⟨rfl, trivial⟩⟩⟩⟩⟩⟩ (jp95 () h)
                        · rw [if_neg c49] at h
                          refine rjf (a := (95, [(0, .ref 0), (1, .long x1), (3, .int x3), (4, .int y42_4), (5, .int y28_5), (6, .int y42_6)], [])) (b := (83, [(0, .ref 0), (1, .long x1), (3, .int x3), (4, .int y42_4), (5, .int y28_5), (6, .int y42_6)], [])) rfl rfl c49 ?_
                          refine rsn 4 (t := (89, [(0, .ref 0), (1, .long x1), (3, .int x3), (4, .int y42_4), (5, .int y28_5), (6, .int y42_6)], [.int y42_6, .int y28_5, .long x1, .ref 0])) rfl ?_
                          obtain ⟨r50, g50, h⟩ := b1_some h
                          refine rcV 190 0 [.long x1, .int y28_5, .int y42_6] rfl rfl rfl (hSh.k 0 rfl _) (Nat.le_of_ble_eq_true rfl) rfl (e_Mo_leftOut N (by omega) hSh g50) ?_
                          show RN xs L al (Ev xs L al d) 187 92 [(0, .ref 0), (1, .long x1), (3, .int x3), (4, .int y42_4), (5, .int y28_5), (6, .int y42_6)] [.int r50] (m, S) (some (.int r0)) (m, S)
                          refine rsn 1 (t := (96, [(0, .ref 0), (1, .long x1), (3, .int x3), (4, .int y42_4), (5, .int y28_5), (6, .int y42_6)], [.int r50])) rfl ?_
                          exact rsub [(0, .ref 0), (1, .long x1), (3, .int x3), (4, .int y42_4), (5, .int y28_5), (6, .int y42_6)] ⟨rfl, ⟨rfl, ⟨rfl, ⟨rfl, ⟨rfl, ⟨rfl, trivial⟩⟩⟩⟩⟩⟩ ⟨rfl, ⟨rfl, ⟨rfl, ⟨rfl, ⟨rfl, ⟨rfl, trivial⟩⟩⟩⟩⟩⟩ (jp96 r50 h)
                    · rw [if_neg c44] at h
                      refine rjt (a := (120, [(0, .ref 0), (1, .long x1), (3, .int x3), (4, .int y42_4), (5, .int y28_5), (6, .int y42_6)], [])) (b := (67, [(0, .ref 0), (1, .long x1), (3, .int x3), (4, .int y42_4), (5, .int y28_5), (6, .int y42_6)], [])) rfl rfl c44 ?_
                      exact rsub [(0, .ref 0), (1, .long x1), (3, .int x3), (4, .int y42_4), (5, .int y28_5)] ⟨rfl, ⟨rfl, ⟨rfl, ⟨rfl, ⟨rfl, trivial⟩⟩⟩⟩⟩ ⟨rfl, ⟨rfl, ⟨rfl, ⟨rfl, ⟨rfl, trivial⟩⟩⟩⟩⟩ (ex56 y42_4 y42_6 h)
              exact rsub [(0, .ref 0), (1, .long x1), (3, .int x3), (4, .int y32), (5, .int y28_5), (6, .int 0)] ⟨rfl, ⟨rfl, ⟨rfl, ⟨rfl, ⟨rfl, ⟨rfl, trivial⟩⟩⟩⟩⟩⟩ ⟨rfl, ⟨rfl, ⟨rfl, ⟨rfl, ⟨rfl, ⟨rfl, trivial⟩⟩⟩⟩⟩⟩ (lp56 N y32 0 h)
            rw [jn] at h
            try dsimp only at h
            by_cases c51 : x3 = 2
            · rw [if_pos c51] at h
              refine rjf (a := (53, [(0, .ref 0), (1, .long x1), (3, .int x3), (4, .int y28_4), (5, .int y28_5)], [])) (b := (39, [(0, .ref 0), (1, .long x1), (3, .int x3), (4, .int y28_4), (5, .int y28_5)], [])) rfl rfl (fun q => q c51) ?_
              refine rsn 5 (t := (47, [(0, .ref 0), (1, .long x1), (3, .int x3), (4, .int y28_4), (5, .int y28_5)], [.int y28_5, .int y28_5, .long x1, .ref 0, .int y28_4])) rfl ?_
              obtain ⟨r52, g52, h⟩ := b1_some h
              refine rcV 175 0 [.long x1, .int y28_5, .int y28_5] rfl rfl rfl (hSh.k 0 rfl _) (Nat.le_of_ble_eq_true rfl) rfl (e_Mo_worthTo N (by omega) hSh g52) ?_
              show RN xs L al (Ev xs L al d) 187 50 [(0, .ref 0), (1, .long x1), (3, .int x3), (4, .int y28_4), (5, .int y28_5)] [.int r52, .int y28_4] (m, S) (some (.int r0)) (m, S)
              refine rsn 2 (t := (53, [(4, .int ((y28_4 + r52))), (0, .ref 0), (1, .long x1), (3, .int x3), (5, .int y28_5)], [])) rfl ?_
              exact rsub [(0, .ref 0), (1, .long x1), (3, .int x3), (4, .int ((y28_4 + r52))), (5, .int y28_5)] ⟨rfl, ⟨rfl, ⟨rfl, ⟨rfl, ⟨rfl, trivial⟩⟩⟩⟩⟩ ⟨rfl, ⟨rfl, ⟨rfl, ⟨rfl, ⟨rfl, trivial⟩⟩⟩⟩⟩ (jp53 ((y28_4 + r52)) h)
            · rw [if_neg c51] at h
              refine rjt (a := (53, [(0, .ref 0), (1, .long x1), (3, .int x3), (4, .int y28_4), (5, .int y28_5)], [])) (b := (39, [(0, .ref 0), (1, .long x1), (3, .int x3), (4, .int y28_4), (5, .int y28_5)], [])) rfl rfl c51 ?_
              exact rsub [(0, .ref 0), (1, .long x1), (3, .int x3), (4, .int y28_4), (5, .int y28_5)] ⟨rfl, ⟨rfl, ⟨rfl, ⟨rfl, ⟨rfl, trivial⟩⟩⟩⟩⟩ ⟨rfl, ⟨rfl, ⟨rfl, ⟨rfl, ⟨rfl, trivial⟩⟩⟩⟩⟩ (jp53 y28_4 h)
    exact rsub [(0, .ref 0), (1, .long x1), (3, .int x3), (4, .int 0), (5, .int 0)] ⟨rfl, ⟨rfl, ⟨rfl, ⟨rfl, ⟨rfl, trivial⟩⟩⟩⟩⟩ ⟨rfl, ⟨rfl, ⟨rfl, ⟨rfl, ⟨rfl, trivial⟩⟩⟩⟩⟩ (lp16 N 0 0 h)
def f_Mo_twice_L52 (N : Nat) (x1 : Int64) (x3 : Int32) (x5 : Int32) (x6 : Int32) (m : Mm) (k52 : Int32 → Int32 → Option (Int32)) : Nat → Int32 → Int32 → Option (Int32)
  | 0, _, _ => none
  | n52 + 1, x4, x7 => (if 3 ≤ x7 then k52 x4 x7 else (if x7 = x5 then f_Mo_twice_L52 N x1 x3 x5 x6 m k52 n52 x4 ((x7 + 1)) else b1 (f_Mo_hasCome N x1 x7) fun r10 => (if r10 = 0 then f_Mo_twice_L52 N x1 x3 x5 x6 m k52 n52 x4 ((x7 + 1)) else b1 (f_Mo_one N x5 x6) fun r12 => b1 (f_Mo_one N x7 x6) fun r13 => b1 (f_Mo_goalOf N ((((x1 - r12)) + r13)) x3 m) fun r14 => (if r14 ≤ x4 then f_Mo_twice_L52 N x1 x3 x5 x6 m k52 n52 x4 ((x7 + 1)) else f_Mo_twice_L52 N x1 x3 x5 x6 m k52 n52 r14 ((x7 + 1))))))
def f_Mo_twice_L20 (N : Nat) (x1 : Int64) (x3 : Int32) (x5 : Int32) (m : Mm) (k20 : Int32 → Int32 → Option (Int32)) : Nat → Int32 → Int32 → Option (Int32)
  | 0, _, _ => none
  | n20 + 1, x4, x6 => (if 3 ≤ x6 then k20 x4 x6 else b1 (f_Mo_hasCome N x1 x5) fun r4 => (if r4 = 0 then f_Mo_twice_L20 N x1 x3 x5 m k20 n20 x4 ((x6 + 1)) else b1 (f_Mo_things N x1 x5 x6) fun r6 => (if r6 = 0 then f_Mo_twice_L20 N x1 x3 x5 m k20 n20 x4 ((x6 + 1)) else f_Mo_twice_L52 N x1 x3 x5 x6 m (fun (z16_4 : Int32) (z16_7 : Int32) => f_Mo_twice_L20 N x1 x3 x5 m k20 n20 z16_4 ((x6 + 1))) N x4 0)))
def f_Mo_twice_L11 (N : Nat) (x1 : Int64) (x3 : Int32) (m : Mm) (k11 : Int32 → Int32 → Option (Int32)) : Nat → Int32 → Int32 → Option (Int32)
  | 0, _, _ => none
  | n11 + 1, x4, x5 => (if 3 ≤ x5 then k11 x4 x5 else f_Mo_twice_L20 N x1 x3 x5 m (fun (z26_4 : Int32) (z26_6 : Int32) => f_Mo_twice_L11 N x1 x3 m k11 n11 z26_4 ((x5 + 1))) N x4 0)
def f_Mo_twice (N : Nat) (x1 : Int64) (x3 : Int32) (m : Mm) : Option (Int32) := b1 (f_Mo_goalOf N x1 x3 m) fun r1 => f_Mo_twice_L11 N x1 x3 m (fun (z51_4 : Int32) (z51_5 : Int32) => some z51_4) N r1 0
set_option maxRecDepth 20000 in
set_option maxHeartbeats 4000000 in
theorem e_Mo_twice {xs : Nat → Int32} {L : Nat} {al : Bool} (N : Nat) {d : Nat} (hd : 5 ≤ d) {S : St} (hSh : ShR S) {x1 : Int64} {x3 : Int32} {m : Mm} {r0 : Int32} (h : f_Mo_twice N x1 x3 m = some r0) : Ev xs L al d 191 [.ref 0, .long x1, .int x3] (m, S) (some (.int r0)) (m, S) := by
  obtain ⟨d, rfl⟩ : ∃ e, d = e + 1 := ⟨d - 1, by omega⟩
  refine ev_of (by decide) (Nat.le_of_ble_eq_true rfl) ?_
  rw [f_Mo_twice] at h
  show RN xs L al (Ev xs L al d) 191 0 [(0, .ref 0), (1, .long x1), (3, .int x3)] [] (m, S) (some (.int r0)) (m, S)
  refine rsn 3 (t := (3, [(0, .ref 0), (1, .long x1), (3, .int x3)], [.int x3, .long x1, .ref 0])) rfl ?_
  obtain ⟨r1, g1, h⟩ := b1_some h
  refine rcV 187 0 [.long x1, .int x3] rfl rfl rfl (hSh.k 0 rfl _) (Nat.le_of_ble_eq_true rfl) rfl (e_Mo_goalOf N (by omega) hSh g1) ?_
  show RN xs L al (Ev xs L al d) 191 6 [(0, .ref 0), (1, .long x1), (3, .int x3)] [.int r1] (m, S) (some (.int r0)) (m, S)
  refine rsn 3 (t := (11, [(5, .int 0), (4, .int r1), (0, .ref 0), (1, .long x1), (3, .int x3)], [])) rfl ?_
  have ex11 : ∀ (z51_4 : Int32) (z51_5 : Int32), (some z51_4) = some r0 → RN xs L al (Ev xs L al d) 191 135 [(4, .int z51_4)] [] (m, S) (some (.int r0)) (m, S) := by
    intro z51_4 z51_5 h
    try dsimp only at h
    refine rsn 1 (t := (137, [(4, .int z51_4)], [.int z51_4])) rfl ?_
    cases h
    exact rret rfl ⟨rfl, rfl, _, _, rfl, rfl, rfl, rfl⟩
  have lp11 : ∀ (n : Nat) (y52_4 : Int32) (y52_5 : Int32), (f_Mo_twice_L11 N x1 x3 m (fun (z51_4 : Int32) (z51_5 : Int32) => some z51_4) n y52_4 y52_5) = some r0 → RN xs L al (Ev xs L al d) 191 11 [(0, .ref 0), (1, .long x1), (3, .int x3), (4, .int y52_4), (5, .int y52_5)] [] (m, S) (some (.int r0)) (m, S) := by
    intro n
    induction n with
    | zero => intro y52_4 y52_5 h; exact absurd h (by simp [f_Mo_twice_L11])
    | succ n11 ih11 =>
      intro y52_4 y52_5 h
      try dsimp only at h
      rw [f_Mo_twice_L11] at h
      try dsimp only at h
      refine rsn 2 (t := (14, [(0, .ref 0), (1, .long x1), (3, .int x3), (4, .int y52_4), (5, .int y52_5)], [.int 3, .int y52_5])) rfl ?_
      by_cases c53 : 3 ≤ y52_5
      · rw [if_pos c53] at h
        refine rjt (a := (135, [(0, .ref 0), (1, .long x1), (3, .int x3), (4, .int y52_4), (5, .int y52_5)], [])) (b := (17, [(0, .ref 0), (1, .long x1), (3, .int x3), (4, .int y52_4), (5, .int y52_5)], [])) rfl rfl c53 ?_
        exact rsub [(4, .int y52_4)] ⟨rfl, trivial⟩ ⟨rfl, trivial⟩ (ex11 y52_4 y52_5 h)
      · rw [if_neg c53] at h
        refine rjf (a := (135, [(0, .ref 0), (1, .long x1), (3, .int x3), (4, .int y52_4), (5, .int y52_5)], [])) (b := (17, [(0, .ref 0), (1, .long x1), (3, .int x3), (4, .int y52_4), (5, .int y52_5)], [])) rfl rfl c53 ?_
        refine rsn 2 (t := (20, [(6, .int 0), (0, .ref 0), (1, .long x1), (3, .int x3), (4, .int y52_4), (5, .int y52_5)], [])) rfl ?_
        have ex20 : ∀ (z77_4 : Int32) (z77_6 : Int32), (f_Mo_twice_L11 N x1 x3 m (fun (z51_4 : Int32) (z51_5 : Int32) => some z51_4) n11 z77_4 ((y52_5 + 1))) = some r0 → RN xs L al (Ev xs L al d) 191 129 [(0, .ref 0), (1, .long x1), (3, .int x3), (4, .int z77_4), (5, .int y52_5)] [] (m, S) (some (.int r0)) (m, S) := by
          intro z77_4 z77_6 h
          try dsimp only at h
          refine rsn 2 (t := (11, [(5, .int ((y52_5 + 1))), (0, .ref 0), (1, .long x1), (3, .int x3), (4, .int z77_4)], [])) rfl ?_
          exact rsub [(0, .ref 0), (1, .long x1), (3, .int x3), (4, .int z77_4), (5, .int ((y52_5 + 1)))] ⟨rfl, ⟨rfl, ⟨rfl, ⟨rfl, ⟨rfl, trivial⟩⟩⟩⟩⟩ ⟨rfl, ⟨rfl, ⟨rfl, ⟨rfl, ⟨rfl, trivial⟩⟩⟩⟩⟩ (ih11 z77_4 ((y52_5 + 1)) h)
        have lp20 : ∀ (n : Nat) (y78_4 : Int32) (y78_6 : Int32), (f_Mo_twice_L20 N x1 x3 y52_5 m (fun (z77_4 : Int32) (z77_6 : Int32) => f_Mo_twice_L11 N x1 x3 m (fun (z51_4 : Int32) (z51_5 : Int32) => some z51_4) n11 z77_4 ((y52_5 + 1))) n y78_4 y78_6) = some r0 → RN xs L al (Ev xs L al d) 191 20 [(0, .ref 0), (1, .long x1), (3, .int x3), (4, .int y78_4), (5, .int y52_5), (6, .int y78_6)] [] (m, S) (some (.int r0)) (m, S) := by
          intro n
          induction n with
          | zero => intro y78_4 y78_6 h; exact absurd h (by simp [f_Mo_twice_L20])
          | succ n20 ih20 =>
            intro y78_4 y78_6 h
            try dsimp only at h
            rw [f_Mo_twice_L20] at h
            try dsimp only at h
            refine rsn 2 (t := (23, [(0, .ref 0), (1, .long x1), (3, .int x3), (4, .int y78_4), (5, .int y52_5), (6, .int y78_6)], [.int 3, .int y78_6])) rfl ?_
            by_cases c79 : 3 ≤ y78_6
            · rw [if_pos c79] at h
              refine rjt (a := (129, [(0, .ref 0), (1, .long x1), (3, .int x3), (4, .int y78_4), (5, .int y52_5), (6, .int y78_6)], [])) (b := (26, [(0, .ref 0), (1, .long x1), (3, .int x3), (4, .int y78_4), (5, .int y52_5), (6, .int y78_6)], [])) rfl rfl c79 ?_
              exact rsub [(0, .ref 0), (1, .long x1), (3, .int x3), (4, .int y78_4), (5, .int y52_5)] ⟨rfl, ⟨rfl, ⟨rfl, ⟨rfl, ⟨rfl, trivial⟩⟩⟩⟩⟩ ⟨rfl, ⟨rfl, ⟨rfl, ⟨rfl, ⟨rfl, trivial⟩⟩⟩⟩⟩ (ex20 y78_4 y78_6 h)
            · rw [if_neg c79] at h
              refine rjf (a := (129, [(0, .ref 0), (1, .long x1), (3, .int x3), (4, .int y78_4), (5, .int y52_5), (6, .int y78_6)], [])) (b := (26, [(0, .ref 0), (1, .long x1), (3, .int x3), (4, .int y78_4), (5, .int y52_5), (6, .int y78_6)], [])) rfl rfl c79 ?_
              refine rsn 2 (t := (29, [(0, .ref 0), (1, .long x1), (3, .int x3), (4, .int y78_4), (5, .int y52_5), (6, .int y78_6)], [.int y52_5, .long x1])) rfl ?_
              obtain ⟨r80, g80, h⟩ := b1_some h
              refine rcS 173 [.long x1, .int y52_5] rfl rfl rfl (Nat.le_of_ble_eq_true rfl) rfl (e_Mo_hasCome N (by omega) g80) ?_
              show RN xs L al (Ev xs L al d) 191 32 [(0, .ref 0), (1, .long x1), (3, .int x3), (4, .int y78_4), (5, .int y52_5), (6, .int y78_6)] [.int r80] (m, S) (some (.int r0)) (m, S)
              by_cases c81 : r80 = 0
              · rw [if_pos c81] at h
                refine rjt (a := (123, [(0, .ref 0), (1, .long x1), (3, .int x3), (4, .int y78_4), (5, .int y52_5), (6, .int y78_6)], [])) (b := (35, [(0, .ref 0), (1, .long x1), (3, .int x3), (4, .int y78_4), (5, .int y52_5), (6, .int y78_6)], [])) rfl rfl c81 ?_
                refine rsn 2 (t := (20, [(6, .int ((y78_6 + 1))), (0, .ref 0), (1, .long x1), (3, .int x3), (4, .int y78_4), (5, .int y52_5)], [])) rfl ?_
                exact rsub [(0, .ref 0), (1, .long x1), (3, .int x3), (4, .int y78_4), (5, .int y52_5), (6, .int ((y78_6 + 1)))] ⟨rfl, ⟨rfl, ⟨rfl, ⟨rfl, ⟨rfl, ⟨rfl, trivial⟩⟩⟩⟩⟩⟩ ⟨rfl, ⟨rfl, ⟨rfl, ⟨rfl, ⟨rfl, ⟨rfl, trivial⟩⟩⟩⟩⟩⟩ (ih20 y78_4 ((y78_6 + 1)) h)
              · rw [if_neg c81] at h
                refine rjf (a := (123, [(0, .ref 0), (1, .long x1), (3, .int x3), (4, .int y78_4), (5, .int y52_5), (6, .int y78_6)], [])) (b := (35, [(0, .ref 0), (1, .long x1), (3, .int x3), (4, .int y78_4), (5, .int y52_5), (6, .int y78_6)], [])) rfl rfl c81 ?_
                refine rsn 3 (t := (40, [(0, .ref 0), (1, .long x1), (3, .int x3), (4, .int y78_4), (5, .int y52_5), (6, .int y78_6)], [.int y78_6, .int y52_5, .long x1])) rfl ?_
                obtain ⟨r82, g82, h⟩ := b1_some h
                refine rcS 174 [.long x1, .int y52_5, .int y78_6] rfl rfl rfl (Nat.le_of_ble_eq_true rfl) rfl (e_Mo_things N (by omega) g82) ?_
                show RN xs L al (Ev xs L al d) 191 43 [(0, .ref 0), (1, .long x1), (3, .int x3), (4, .int y78_4), (5, .int y52_5), (6, .int y78_6)] [.int r82] (m, S) (some (.int r0)) (m, S)
                by_cases c83 : r82 = 0
                · rw [if_pos c83] at h
                  refine rjf (a := (49, [(0, .ref 0), (1, .long x1), (3, .int x3), (4, .int y78_4), (5, .int y52_5), (6, .int y78_6)], [])) (b := (46, [(0, .ref 0), (1, .long x1), (3, .int x3), (4, .int y78_4), (5, .int y52_5), (6, .int y78_6)], [])) rfl rfl (fun q => q c83) ?_
                  refine rsn 3 (t := (20, [(6, .int ((y78_6 + 1))), (0, .ref 0), (1, .long x1), (3, .int x3), (4, .int y78_4), (5, .int y52_5)], [])) rfl ?_
                  exact rsub [(0, .ref 0), (1, .long x1), (3, .int x3), (4, .int y78_4), (5, .int y52_5), (6, .int ((y78_6 + 1)))] ⟨rfl, ⟨rfl, ⟨rfl, ⟨rfl, ⟨rfl, ⟨rfl, trivial⟩⟩⟩⟩⟩⟩ ⟨rfl, ⟨rfl, ⟨rfl, ⟨rfl, ⟨rfl, ⟨rfl, trivial⟩⟩⟩⟩⟩⟩ (ih20 y78_4 ((y78_6 + 1)) h)
                · rw [if_neg c83] at h
                  refine rjt (a := (49, [(0, .ref 0), (1, .long x1), (3, .int x3), (4, .int y78_4), (5, .int y52_5), (6, .int y78_6)], [])) (b := (46, [(0, .ref 0), (1, .long x1), (3, .int x3), (4, .int y78_4), (5, .int y52_5), (6, .int y78_6)], [])) rfl rfl c83 ?_
                  refine rsn 2 (t := (52, [(7, .int 0), (0, .ref 0), (1, .long x1), (3, .int x3), (4, .int y78_4), (5, .int y52_5), (6, .int y78_6)], [])) rfl ?_
                  have ex52 : ∀ (z92_4 : Int32) (z92_7 : Int32), (f_Mo_twice_L20 N x1 x3 y52_5 m (fun (z77_4 : Int32) (z77_6 : Int32) => f_Mo_twice_L11 N x1 x3 m (fun (z51_4 : Int32) (z51_5 : Int32) => some z51_4) n11 z77_4 ((y52_5 + 1))) n20 z92_4 ((y78_6 + 1))) = some r0 → RN xs L al (Ev xs L al d) 191 123 [(0, .ref 0), (1, .long x1), (3, .int x3), (4, .int z92_4), (5, .int y52_5), (6, .int y78_6)] [] (m, S) (some (.int r0)) (m, S) := by
                    intro z92_4 z92_7 h
                    try dsimp only at h
                    refine rsn 2 (t := (20, [(6, .int ((y78_6 + 1))), (0, .ref 0), (1, .long x1), (3, .int x3), (4, .int z92_4), (5, .int y52_5)], [])) rfl ?_
                    exact rsub [(0, .ref 0), (1, .long x1), (3, .int x3), (4, .int z92_4), (5, .int y52_5), (6, .int ((y78_6 + 1)))] ⟨rfl, ⟨rfl, ⟨rfl, ⟨rfl, ⟨rfl, ⟨rfl, trivial⟩⟩⟩⟩⟩⟩ ⟨rfl, ⟨rfl, ⟨rfl, ⟨rfl, ⟨rfl, ⟨rfl, trivial⟩⟩⟩⟩⟩⟩ (ih20 z92_4 ((y78_6 + 1)) h)
                  have lp52 : ∀ (n : Nat) (y93_4 : Int32) (y93_7 : Int32), (f_Mo_twice_L52 N x1 x3 y52_5 y78_6 m (fun (z92_4 : Int32) (z92_7 : Int32) => f_Mo_twice_L20 N x1 x3 y52_5 m (fun (z77_4 : Int32) (z77_6 : Int32) => f_Mo_twice_L11 N x1 x3 m (fun (z51_4 : Int32) (z51_5 : Int32) => some z51_4) n11 z77_4 ((y52_5 + 1))) n20 z92_4 ((y78_6 + 1))) n y93_4 y93_7) = some r0 → RN xs L al (Ev xs L al d) 191 52 [(0, .ref 0), (1, .long x1), (3, .int x3), (4, .int y93_4), (5, .int y52_5), (6, .int y78_6), (7, .int y93_7)] [] (m, S) (some (.int r0)) (m, S) := by
                    intro n
                    induction n with
                    | zero => intro y93_4 y93_7 h; exact absurd h (by simp [f_Mo_twice_L52])
                    | succ n52 ih52 =>
                      intro y93_4 y93_7 h
                      try dsimp only at h
                      rw [f_Mo_twice_L52] at h
                      try dsimp only at h
                      refine rsn 2 (t := (55, [(0, .ref 0), (1, .long x1), (3, .int x3), (4, .int y93_4), (5, .int y52_5), (6, .int y78_6), (7, .int y93_7)], [.int 3, .int y93_7])) rfl ?_
                      by_cases c94 : 3 ≤ y93_7
                      · rw [if_pos c94] at h
                        refine rjt (a := (123, [(0, .ref 0), (1, .long x1), (3, .int x3), (4, .int y93_4), (5, .int y52_5), (6, .int y78_6), (7, .int y93_7)], [])) (b := (58, [(0, .ref 0), (1, .long x1), (3, .int x3), (4, .int y93_4), (5, .int y52_5), (6, .int y78_6), (7, .int y93_7)], [])) rfl rfl c94 ?_
                        exact rsub [(0, .ref 0), (1, .long x1), (3, .int x3), (4, .int y93_4), (5, .int y52_5), (6, .int y78_6)] ⟨rfl, ⟨rfl, ⟨rfl, ⟨rfl, ⟨rfl, ⟨rfl, trivial⟩⟩⟩⟩⟩⟩ ⟨rfl, ⟨rfl, ⟨rfl, ⟨rfl, ⟨rfl, ⟨rfl, trivial⟩⟩⟩⟩⟩⟩ (ex52 y93_4 y93_7 h)
                      · rw [if_neg c94] at h
                        refine rjf (a := (123, [(0, .ref 0), (1, .long x1), (3, .int x3), (4, .int y93_4), (5, .int y52_5), (6, .int y78_6), (7, .int y93_7)], [])) (b := (58, [(0, .ref 0), (1, .long x1), (3, .int x3), (4, .int y93_4), (5, .int y52_5), (6, .int y78_6), (7, .int y93_7)], [])) rfl rfl c94 ?_
                        refine rsn 2 (t := (62, [(0, .ref 0), (1, .long x1), (3, .int x3), (4, .int y93_4), (5, .int y52_5), (6, .int y78_6), (7, .int y93_7)], [.int y52_5, .int y93_7])) rfl ?_
                        by_cases c95 : y93_7 = y52_5
                        · rw [if_pos c95] at h
                          refine rjt (a := (117, [(0, .ref 0), (1, .long x1), (3, .int x3), (4, .int y93_4), (5, .int y52_5), (6, .int y78_6), (7, .int y93_7)], [])) (b := (65, [(0, .ref 0), (1, .long x1), (3, .int x3), (4, .int y93_4), (5, .int y52_5), (6, .int y78_6), (7, .int y93_7)], [])) rfl rfl c95 ?_
                          refine rsn 2 (t := (52, [(7, .int ((y93_7 + 1))), (0, .ref 0), (1, .long x1), (3, .int x3), (4, .int y93_4), (5, .int y52_5), (6, .int y78_6)], [])) rfl ?_
                          exact rsub [(0, .ref 0), (1, .long x1), (3, .int x3), (4, .int y93_4), (5, .int y52_5), (6, .int y78_6), (7, .int ((y93_7 + 1)))] ⟨rfl, ⟨rfl, ⟨rfl, ⟨rfl, ⟨rfl, ⟨rfl, ⟨rfl, trivial⟩⟩⟩⟩⟩⟩⟩ ⟨rfl, ⟨rfl, ⟨rfl, ⟨rfl, ⟨rfl, ⟨rfl, ⟨rfl, trivial⟩⟩⟩⟩⟩⟩⟩ (ih52 y93_4 ((y93_7 + 1)) h)
                        · rw [if_neg c95] at h
                          refine rjf (a := (117, [(0, .ref 0), (1, .long x1), (3, .int x3), (4, .int y93_4), (5, .int y52_5), (6, .int y78_6), (7, .int y93_7)], [])) (b := (65, [(0, .ref 0), (1, .long x1), (3, .int x3), (4, .int y93_4), (5, .int y52_5), (6, .int y78_6), (7, .int y93_7)], [])) rfl rfl c95 ?_
                          refine rsn 2 (t := (68, [(0, .ref 0), (1, .long x1), (3, .int x3), (4, .int y93_4), (5, .int y52_5), (6, .int y78_6), (7, .int y93_7)], [.int y93_7, .long x1])) rfl ?_
                          obtain ⟨r96, g96, h⟩ := b1_some h
                          refine rcS 173 [.long x1, .int y93_7] rfl rfl rfl (Nat.le_of_ble_eq_true rfl) rfl (e_Mo_hasCome N (by omega) g96) ?_
                          show RN xs L al (Ev xs L al d) 191 71 [(0, .ref 0), (1, .long x1), (3, .int x3), (4, .int y93_4), (5, .int y52_5), (6, .int y78_6), (7, .int y93_7)] [.int r96] (m, S) (some (.int r0)) (m, S)
                          by_cases c97 : r96 = 0
                          · rw [if_pos c97] at h
                            refine rjf (a := (77, [(0, .ref 0), (1, .long x1), (3, .int x3), (4, .int y93_4), (5, .int y52_5), (6, .int y78_6), (7, .int y93_7)], [])) (b := (74, [(0, .ref 0), (1, .long x1), (3, .int x3), (4, .int y93_4), (5, .int y52_5), (6, .int y78_6), (7, .int y93_7)], [])) rfl rfl (fun q => q c97) ?_
                            refine rsn 3 (t := (52, [(7, .int ((y93_7 + 1))), (0, .ref 0), (1, .long x1), (3, .int x3), (4, .int y93_4), (5, .int y52_5), (6, .int y78_6)], [])) rfl ?_
                            exact rsub [(0, .ref 0), (1, .long x1), (3, .int x3), (4, .int y93_4), (5, .int y52_5), (6, .int y78_6), (7, .int ((y93_7 + 1)))] ⟨rfl, ⟨rfl, ⟨rfl, ⟨rfl, ⟨rfl, ⟨rfl, ⟨rfl, trivial⟩⟩⟩⟩⟩⟩⟩ ⟨rfl, ⟨rfl, ⟨rfl, ⟨rfl, ⟨rfl, ⟨rfl, ⟨rfl, trivial⟩⟩⟩⟩⟩⟩⟩ (ih52 y93_4 ((y93_7 + 1)) h)
                          · rw [if_neg c97] at h
                            refine rjt (a := (77, [(0, .ref 0), (1, .long x1), (3, .int x3), (4, .int y93_4), (5, .int y52_5), (6, .int y78_6), (7, .int y93_7)], [])) (b := (74, [(0, .ref 0), (1, .long x1), (3, .int x3), (4, .int y93_4), (5, .int y52_5), (6, .int y78_6), (7, .int y93_7)], [])) rfl rfl c97 ?_
                            refine rsn 4 (t := (83, [(0, .ref 0), (1, .long x1), (3, .int x3), (4, .int y93_4), (5, .int y52_5), (6, .int y78_6), (7, .int y93_7)], [.int y78_6, .int y52_5, .long x1, .ref 0])) rfl ?_
                            obtain ⟨r98, g98, h⟩ := b1_some h
                            refine rcS 182 [.int y52_5, .int y78_6] rfl rfl rfl (Nat.le_of_ble_eq_true rfl) rfl (e_Mo_one N (by omega) g98) ?_
                            show RN xs L al (Ev xs L al d) 191 86 [(0, .ref 0), (1, .long x1), (3, .int x3), (4, .int y93_4), (5, .int y52_5), (6, .int y78_6), (7, .int y93_7)] [.long r98, .long x1, .ref 0] (m, S) (some (.int r0)) (m, S)
                            refine rsn 3 (t := (91, [(0, .ref 0), (1, .long x1), (3, .int x3), (4, .int y93_4), (5, .int y52_5), (6, .int y78_6), (7, .int y93_7)], [.int y78_6, .int y93_7, .long ((x1 - r98)), .ref 0])) rfl ?_
                            obtain ⟨r99, g99, h⟩ := b1_some h
                            refine rcS 182 [.int y93_7, .int y78_6] rfl rfl rfl (Nat.le_of_ble_eq_true rfl) rfl (e_Mo_one N (by omega) g99) ?_
                            show RN xs L al (Ev xs L al d) 191 94 [(0, .ref 0), (1, .long x1), (3, .int x3), (4, .int y93_4), (5, .int y52_5), (6, .int y78_6), (7, .int y93_7)] [.long r99, .long ((x1 - r98)), .ref 0] (m, S) (some (.int r0)) (m, S)
                            refine rsn 2 (t := (96, [(0, .ref 0), (1, .long x1), (3, .int x3), (4, .int y93_4), (5, .int y52_5), (6, .int y78_6), (7, .int y93_7)], [.int x3, .long ((((x1 - r98)) + r99)), .ref 0])) rfl ?_
                            obtain ⟨r100, g100, h⟩ := b1_some h
                            refine rcV 187 0 [.long ((((x1 - r98)) + r99)), .int x3] rfl rfl rfl (hSh.k 0 rfl _) (Nat.le_of_ble_eq_true rfl) rfl (e_Mo_goalOf N (by omega) hSh g100) ?_
                            show RN xs L al (Ev xs L al d) 191 99 [(0, .ref 0), (1, .long x1), (3, .int x3), (4, .int y93_4), (5, .int y52_5), (6, .int y78_6), (7, .int y93_7)] [.int r100] (m, S) (some (.int r0)) (m, S)
                            refine rsn 3 (t := (105, [(8, .int r100), (0, .ref 0), (1, .long x1), (3, .int x3), (4, .int y93_4), (5, .int y52_5), (6, .int y78_6), (7, .int y93_7)], [.int y93_4, .int r100])) rfl ?_
                            by_cases c101 : r100 ≤ y93_4
                            · rw [if_pos c101] at h
                              refine rjt (a := (113, [(8, .int r100), (0, .ref 0), (1, .long x1), (3, .int x3), (4, .int y93_4), (5, .int y52_5), (6, .int y78_6), (7, .int y93_7)], [])) (b := (108, [(8, .int r100), (0, .ref 0), (1, .long x1), (3, .int x3), (4, .int y93_4), (5, .int y52_5), (6, .int y78_6), (7, .int y93_7)], [])) rfl rfl c101 ?_
                              refine rsn 4 (t := (52, [(7, .int ((y93_7 + 1))), (4, .int y93_4), (8, .int r100), (0, .ref 0), (1, .long x1), (3, .int x3), (5, .int y52_5), (6, .int y78_6)], [])) rfl ?_
                              exact rsub [(0, .ref 0), (1, .long x1), (3, .int x3), (4, .int y93_4), (5, .int y52_5), (6, .int y78_6), (7, .int ((y93_7 + 1)))] ⟨rfl, ⟨rfl, ⟨rfl, ⟨rfl, ⟨rfl, ⟨rfl, ⟨rfl, trivial⟩⟩⟩⟩⟩⟩⟩ ⟨rfl, ⟨rfl, ⟨rfl, ⟨rfl, ⟨rfl, ⟨rfl, ⟨rfl, trivial⟩⟩⟩⟩⟩⟩⟩ (ih52 y93_4 ((y93_7 + 1)) h)
                            · rw [if_neg c101] at h
                              refine rjf (a := (113, [(8, .int r100), (0, .ref 0), (1, .long x1), (3, .int x3), (4, .int y93_4), (5, .int y52_5), (6, .int y78_6), (7, .int y93_7)], [])) (b := (108, [(8, .int r100), (0, .ref 0), (1, .long x1), (3, .int x3), (4, .int y93_4), (5, .int y52_5), (6, .int y78_6), (7, .int y93_7)], [])) rfl rfl c101 ?_
                              refine rsn 5 (t := (52, [(7, .int ((y93_7 + 1))), (4, .int r100), (8, .int r100), (0, .ref 0), (1, .long x1), (3, .int x3), (5, .int y52_5), (6, .int y78_6)], [])) rfl ?_
                              exact rsub [(0, .ref 0), (1, .long x1), (3, .int x3), (4, .int r100), (5, .int y52_5), (6, .int y78_6), (7, .int ((y93_7 + 1)))] ⟨rfl, ⟨rfl, ⟨rfl, ⟨rfl, ⟨rfl, ⟨rfl, ⟨rfl, trivial⟩⟩⟩⟩⟩⟩⟩ ⟨rfl, ⟨rfl, ⟨rfl, ⟨rfl, ⟨rfl, ⟨rfl, ⟨rfl, trivial⟩⟩⟩⟩⟩⟩⟩ (ih52 r100 ((y93_7 + 1)) h)
                  exact rsub [(0, .ref 0), (1, .long x1), (3, .int x3), (4, .int y78_4), (5, .int y52_5), (6, .int y78_6), (7, .int 0)] ⟨rfl, ⟨rfl, ⟨rfl, ⟨rfl, ⟨rfl, ⟨rfl, ⟨rfl, trivial⟩⟩⟩⟩⟩⟩⟩ ⟨rfl, ⟨rfl, ⟨rfl, ⟨rfl, ⟨rfl, ⟨rfl, ⟨rfl, trivial⟩⟩⟩⟩⟩⟩⟩ (lp52 N y78_4 0 h)
        exact rsub [(0, .ref 0), (1, .long x1), (3, .int x3), (4, .int y52_4), (5, .int y52_5), (6, .int 0)] ⟨rfl, ⟨rfl, ⟨rfl, ⟨rfl, ⟨rfl, ⟨rfl, trivial⟩⟩⟩⟩⟩⟩ ⟨rfl, ⟨rfl, ⟨rfl, ⟨rfl, ⟨rfl, ⟨rfl, trivial⟩⟩⟩⟩⟩⟩ (lp20 N y52_4 0 h)
  exact rsub [(0, .ref 0), (1, .long x1), (3, .int x3), (4, .int r1), (5, .int 0)] ⟨rfl, ⟨rfl, ⟨rfl, ⟨rfl, ⟨rfl, trivial⟩⟩⟩⟩⟩ ⟨rfl, ⟨rfl, ⟨rfl, ⟨rfl, ⟨rfl, trivial⟩⟩⟩⟩⟩ (lp11 N r1 0 h)
def f_Mo_backed_L60 (N : Nat) (x1 : Int64) (x3 : Int32) (x4 : Int32) (x6 : Int32) (x7 : Int32) (m : Mm) (k60 : Int32 → Int32 → Option (Int32)) : Nat → Int32 → Int32 → Option (Int32)
  | 0, _, _ => none
  | n60 + 1, x5, x8 => (if 3 ≤ x8 then k60 x5 x8 else (if x8 = x6 then f_Mo_backed_L60 N x1 x3 x4 x6 x7 m k60 n60 x5 ((x8 + 1)) else b1 (f_Mo_hasCome N x1 x8) fun r11 => (if r11 = 0 then f_Mo_backed_L60 N x1 x3 x4 x6 x7 m k60 n60 x5 ((x8 + 1)) else b1 (f_Mo_one N x6 x7) fun r13 => b1 (f_Mo_one N x8 x7) fun r14 => (jn (fun (s15 : Int32) => (if s15 ≤ x5 then f_Mo_backed_L60 N x1 x3 x4 x6 x7 m k60 n60 x5 ((x8 + 1)) else f_Mo_backed_L60 N x1 x3 x4 x6 x7 m k60 n60 s15 ((x8 + 1)))) (fun j127 => if x4 = 1 then b1 (f_Mo_goalOf N ((((x1 - r13)) + r14)) x3 m) fun r19 => j127 r19 else b1 (f_Mo_twice N ((((x1 - r13)) + r14)) x3 m) fun r18 => j127 r18)))))
def f_Mo_backed_L28 (N : Nat) (x1 : Int64) (x3 : Int32) (x4 : Int32) (x6 : Int32) (m : Mm) (k28 : Int32 → Int32 → Option (Int32)) : Nat → Int32 → Int32 → Option (Int32)
  | 0, _, _ => none
  | n28 + 1, x5, x7 => (if 3 ≤ x7 then k28 x5 x7 else b1 (f_Mo_hasCome N x1 x6) fun r5 => (if r5 = 0 then f_Mo_backed_L28 N x1 x3 x4 x6 m k28 n28 x5 ((x7 + 1)) else b1 (f_Mo_things N x1 x6 x7) fun r7 => (if r7 = 0 then f_Mo_backed_L28 N x1 x3 x4 x6 m k28 n28 x5 ((x7 + 1)) else f_Mo_backed_L60 N x1 x3 x4 x6 x7 m (fun (z20_5 : Int32) (z20_8 : Int32) => f_Mo_backed_L28 N x1 x3 x4 x6 m k28 n28 z20_5 ((x7 + 1))) N x5 0)))
def f_Mo_backed_L19 (N : Nat) (x1 : Int64) (x3 : Int32) (x4 : Int32) (m : Mm) (k19 : Int32 → Int32 → Option (Int32)) : Nat → Int32 → Int32 → Option (Int32)
  | 0, _, _ => none
  | n19 + 1, x5, x6 => (if 3 ≤ x6 then k19 x5 x6 else f_Mo_backed_L28 N x1 x3 x4 x6 m (fun (z33_5 : Int32) (z33_7 : Int32) => f_Mo_backed_L19 N x1 x3 x4 m k19 n19 z33_5 ((x6 + 1))) N x5 0)
def f_Mo_backed (N : Nat) (x1 : Int64) (x3 : Int32) (x4 : Int32) (m : Mm) : Option (Int32) := b1 (f_Mo_goalOf N x1 x3 m) fun r1 => (if x4 = 0 then some r1 else f_Mo_backed_L19 N x1 x3 x4 m (fun (z64_5 : Int32) (z64_6 : Int32) => some z64_5) N r1 0)
set_option maxRecDepth 20000 in
set_option maxHeartbeats 4000000 in
theorem e_Mo_backed {xs : Nat → Int32} {L : Nat} {al : Bool} (N : Nat) {d : Nat} (hd : 6 ≤ d) {S : St} (hSh : ShR S) {x1 : Int64} {x3 : Int32} {x4 : Int32} {m : Mm} {r0 : Int32} (h : f_Mo_backed N x1 x3 x4 m = some r0) : Ev xs L al d 186 [.ref 0, .long x1, .int x3, .int x4] (m, S) (some (.int r0)) (m, S) := by
  obtain ⟨d, rfl⟩ : ∃ e, d = e + 1 := ⟨d - 1, by omega⟩
  refine ev_of (by decide) (Nat.le_of_ble_eq_true rfl) ?_
  rw [f_Mo_backed] at h
  show RN xs L al (Ev xs L al d) 186 0 [(0, .ref 0), (1, .long x1), (3, .int x3), (4, .int x4)] [] (m, S) (some (.int r0)) (m, S)
  refine rsn 3 (t := (3, [(0, .ref 0), (1, .long x1), (3, .int x3), (4, .int x4)], [.int x3, .long x1, .ref 0])) rfl ?_
  obtain ⟨r1, g1, h⟩ := b1_some h
  refine rcV 187 0 [.long x1, .int x3] rfl rfl rfl (hSh.k 0 rfl _) (Nat.le_of_ble_eq_true rfl) rfl (e_Mo_goalOf N (by omega) hSh g1) ?_
  show RN xs L al (Ev xs L al d) 186 6 [(0, .ref 0), (1, .long x1), (3, .int x3), (4, .int x4)] [.int r1] (m, S) (some (.int r0)) (m, S)
  refine rsn 2 (t := (10, [(5, .int r1), (0, .ref 0), (1, .long x1), (3, .int x3), (4, .int x4)], [.int x4])) rfl ?_
  by_cases c2 : x4 = 0
  · rw [if_pos c2] at h
    refine rjf (a := (16, [(5, .int r1), (0, .ref 0), (1, .long x1), (3, .int x3), (4, .int x4)], [])) (b := (13, [(5, .int r1), (0, .ref 0), (1, .long x1), (3, .int x3), (4, .int x4)], [])) rfl rfl (fun q => q c2) ?_
    refine rsn 1 (t := (15, [(5, .int r1), (0, .ref 0), (1, .long x1), (3, .int x3), (4, .int x4)], [.int r1])) rfl ?_
    cases h
    exact rret rfl ⟨rfl, rfl, _, _, rfl, rfl, rfl, rfl⟩
  · rw [if_neg c2] at h
    refine rjt (a := (16, [(5, .int r1), (0, .ref 0), (1, .long x1), (3, .int x3), (4, .int x4)], [])) (b := (13, [(5, .int r1), (0, .ref 0), (1, .long x1), (3, .int x3), (4, .int x4)], [])) rfl rfl c2 ?_
    refine rsn 2 (t := (19, [(6, .int 0), (5, .int r1), (0, .ref 0), (1, .long x1), (3, .int x3), (4, .int x4)], [])) rfl ?_
    have ex19 : ∀ (z64_5 : Int32) (z64_6 : Int32), (some z64_5) = some r0 → RN xs L al (Ev xs L al d) 186 163 [(5, .int z64_5)] [] (m, S) (some (.int r0)) (m, S) := by
      intro z64_5 z64_6 h
      try dsimp only at h
      refine rsn 1 (t := (165, [(5, .int z64_5)], [.int z64_5])) rfl ?_
      cases h
      exact rret rfl ⟨rfl, rfl, _, _, rfl, rfl, rfl, rfl⟩
    have lp19 : ∀ (n : Nat) (y65_5 : Int32) (y65_6 : Int32), (f_Mo_backed_L19 N x1 x3 x4 m (fun (z64_5 : Int32) (z64_6 : Int32) => some z64_5) n y65_5 y65_6) = some r0 → RN xs L al (Ev xs L al d) 186 19 [(0, .ref 0), (1, .long x1), (3, .int x3), (4, .int x4), (5, .int y65_5), (6, .int y65_6)] [] (m, S) (some (.int r0)) (m, S) := by
      intro n
      induction n with
      | zero => intro y65_5 y65_6 h; exact absurd h (by simp [f_Mo_backed_L19])
      | succ n19 ih19 =>
        intro y65_5 y65_6 h
        try dsimp only at h
        rw [f_Mo_backed_L19] at h
        try dsimp only at h
        refine rsn 2 (t := (22, [(0, .ref 0), (1, .long x1), (3, .int x3), (4, .int x4), (5, .int y65_5), (6, .int y65_6)], [.int 3, .int y65_6])) rfl ?_
        by_cases c66 : 3 ≤ y65_6
        · rw [if_pos c66] at h
          refine rjt (a := (163, [(0, .ref 0), (1, .long x1), (3, .int x3), (4, .int x4), (5, .int y65_5), (6, .int y65_6)], [])) (b := (25, [(0, .ref 0), (1, .long x1), (3, .int x3), (4, .int x4), (5, .int y65_5), (6, .int y65_6)], [])) rfl rfl c66 ?_
          exact rsub [(5, .int y65_5)] ⟨rfl, trivial⟩ ⟨rfl, trivial⟩ (ex19 y65_5 y65_6 h)
        · rw [if_neg c66] at h
          refine rjf (a := (163, [(0, .ref 0), (1, .long x1), (3, .int x3), (4, .int x4), (5, .int y65_5), (6, .int y65_6)], [])) (b := (25, [(0, .ref 0), (1, .long x1), (3, .int x3), (4, .int x4), (5, .int y65_5), (6, .int y65_6)], [])) rfl rfl c66 ?_
          refine rsn 2 (t := (28, [(7, .int 0), (0, .ref 0), (1, .long x1), (3, .int x3), (4, .int x4), (5, .int y65_5), (6, .int y65_6)], [])) rfl ?_
          have ex28 : ∀ (z96_5 : Int32) (z96_7 : Int32), (f_Mo_backed_L19 N x1 x3 x4 m (fun (z64_5 : Int32) (z64_6 : Int32) => some z64_5) n19 z96_5 ((y65_6 + 1))) = some r0 → RN xs L al (Ev xs L al d) 186 157 [(0, .ref 0), (1, .long x1), (3, .int x3), (4, .int x4), (5, .int z96_5), (6, .int y65_6)] [] (m, S) (some (.int r0)) (m, S) := by
            intro z96_5 z96_7 h
            try dsimp only at h
            refine rsn 2 (t := (19, [(6, .int ((y65_6 + 1))), (0, .ref 0), (1, .long x1), (3, .int x3), (4, .int x4), (5, .int z96_5)], [])) rfl ?_
            exact rsub [(0, .ref 0), (1, .long x1), (3, .int x3), (4, .int x4), (5, .int z96_5), (6, .int ((y65_6 + 1)))] ⟨rfl, ⟨rfl, ⟨rfl, ⟨rfl, ⟨rfl, ⟨rfl, trivial⟩⟩⟩⟩⟩⟩ ⟨rfl, ⟨rfl, ⟨rfl, ⟨rfl, ⟨rfl, ⟨rfl, trivial⟩⟩⟩⟩⟩⟩ (ih19 z96_5 ((y65_6 + 1)) h)
          have lp28 : ∀ (n : Nat) (y97_5 : Int32) (y97_7 : Int32), (f_Mo_backed_L28 N x1 x3 x4 y65_6 m (fun (z96_5 : Int32) (z96_7 : Int32) => f_Mo_backed_L19 N x1 x3 x4 m (fun (z64_5 : Int32) (z64_6 : Int32) => some z64_5) n19 z96_5 ((y65_6 + 1))) n y97_5 y97_7) = some r0 → RN xs L al (Ev xs L al d) 186 28 [(0, .ref 0), (1, .long x1), (3, .int x3), (4, .int x4), (5, .int y97_5), (6, .int y65_6), (7, .int y97_7)] [] (m, S) (some (.int r0)) (m, S) := by
            intro n
            induction n with
            | zero => intro y97_5 y97_7 h; exact absurd h (by simp [f_Mo_backed_L28])
            | succ n28 ih28 =>
              intro y97_5 y97_7 h
              try dsimp only at h
              rw [f_Mo_backed_L28] at h
              try dsimp only at h
              refine rsn 2 (t := (31, [(0, .ref 0), (1, .long x1), (3, .int x3), (4, .int x4), (5, .int y97_5), (6, .int y65_6), (7, .int y97_7)], [.int 3, .int y97_7])) rfl ?_
              by_cases c98 : 3 ≤ y97_7
              · rw [if_pos c98] at h
                refine rjt (a := (157, [(0, .ref 0), (1, .long x1), (3, .int x3), (4, .int x4), (5, .int y97_5), (6, .int y65_6), (7, .int y97_7)], [])) (b := (34, [(0, .ref 0), (1, .long x1), (3, .int x3), (4, .int x4), (5, .int y97_5), (6, .int y65_6), (7, .int y97_7)], [])) rfl rfl c98 ?_
                exact rsub [(0, .ref 0), (1, .long x1), (3, .int x3), (4, .int x4), (5, .int y97_5), (6, .int y65_6)] ⟨rfl, ⟨rfl, ⟨rfl, ⟨rfl, ⟨rfl, ⟨rfl, trivial⟩⟩⟩⟩⟩⟩ ⟨rfl, ⟨rfl, ⟨rfl, ⟨rfl, ⟨rfl, ⟨rfl, trivial⟩⟩⟩⟩⟩⟩ (ex28 y97_5 y97_7 h)
              · rw [if_neg c98] at h
                refine rjf (a := (157, [(0, .ref 0), (1, .long x1), (3, .int x3), (4, .int x4), (5, .int y97_5), (6, .int y65_6), (7, .int y97_7)], [])) (b := (34, [(0, .ref 0), (1, .long x1), (3, .int x3), (4, .int x4), (5, .int y97_5), (6, .int y65_6), (7, .int y97_7)], [])) rfl rfl c98 ?_
                refine rsn 2 (t := (37, [(0, .ref 0), (1, .long x1), (3, .int x3), (4, .int x4), (5, .int y97_5), (6, .int y65_6), (7, .int y97_7)], [.int y65_6, .long x1])) rfl ?_
                obtain ⟨r99, g99, h⟩ := b1_some h
                refine rcS 173 [.long x1, .int y65_6] rfl rfl rfl (Nat.le_of_ble_eq_true rfl) rfl (e_Mo_hasCome N (by omega) g99) ?_
                show RN xs L al (Ev xs L al d) 186 40 [(0, .ref 0), (1, .long x1), (3, .int x3), (4, .int x4), (5, .int y97_5), (6, .int y65_6), (7, .int y97_7)] [.int r99] (m, S) (some (.int r0)) (m, S)
                by_cases c100 : r99 = 0
                · rw [if_pos c100] at h
                  refine rjt (a := (151, [(0, .ref 0), (1, .long x1), (3, .int x3), (4, .int x4), (5, .int y97_5), (6, .int y65_6), (7, .int y97_7)], [])) (b := (43, [(0, .ref 0), (1, .long x1), (3, .int x3), (4, .int x4), (5, .int y97_5), (6, .int y65_6), (7, .int y97_7)], [])) rfl rfl c100 ?_
                  refine rsn 2 (t := (28, [(7, .int ((y97_7 + 1))), (0, .ref 0), (1, .long x1), (3, .int x3), (4, .int x4), (5, .int y97_5), (6, .int y65_6)], [])) rfl ?_
                  exact rsub [(0, .ref 0), (1, .long x1), (3, .int x3), (4, .int x4), (5, .int y97_5), (6, .int y65_6), (7, .int ((y97_7 + 1)))] ⟨rfl, ⟨rfl, ⟨rfl, ⟨rfl, ⟨rfl, ⟨rfl, ⟨rfl, trivial⟩⟩⟩⟩⟩⟩⟩ ⟨rfl, ⟨rfl, ⟨rfl, ⟨rfl, ⟨rfl, ⟨rfl, ⟨rfl, trivial⟩⟩⟩⟩⟩⟩⟩ (ih28 y97_5 ((y97_7 + 1)) h)
                · rw [if_neg c100] at h
                  refine rjf (a := (151, [(0, .ref 0), (1, .long x1), (3, .int x3), (4, .int x4), (5, .int y97_5), (6, .int y65_6), (7, .int y97_7)], [])) (b := (43, [(0, .ref 0), (1, .long x1), (3, .int x3), (4, .int x4), (5, .int y97_5), (6, .int y65_6), (7, .int y97_7)], [])) rfl rfl c100 ?_
                  refine rsn 3 (t := (48, [(0, .ref 0), (1, .long x1), (3, .int x3), (4, .int x4), (5, .int y97_5), (6, .int y65_6), (7, .int y97_7)], [.int y97_7, .int y65_6, .long x1])) rfl ?_
                  obtain ⟨r101, g101, h⟩ := b1_some h
                  refine rcS 174 [.long x1, .int y65_6, .int y97_7] rfl rfl rfl (Nat.le_of_ble_eq_true rfl) rfl (e_Mo_things N (by omega) g101) ?_
                  show RN xs L al (Ev xs L al d) 186 51 [(0, .ref 0), (1, .long x1), (3, .int x3), (4, .int x4), (5, .int y97_5), (6, .int y65_6), (7, .int y97_7)] [.int r101] (m, S) (some (.int r0)) (m, S)
                  by_cases c102 : r101 = 0
                  · rw [if_pos c102] at h
                    refine rjf (a := (57, [(0, .ref 0), (1, .long x1), (3, .int x3), (4, .int x4), (5, .int y97_5), (6, .int y65_6), (7, .int y97_7)], [])) (b := (54, [(0, .ref 0), (1, .long x1), (3, .int x3), (4, .int x4), (5, .int y97_5), (6, .int y65_6), (7, .int y97_7)], [])) rfl rfl (fun q => q c102) ?_
                    refine rsn 3 (t := (28, [(7, .int ((y97_7 + 1))), (0, .ref 0), (1, .long x1), (3, .int x3), (4, .int x4), (5, .int y97_5), (6, .int y65_6)], [])) rfl ?_
                    exact rsub [(0, .ref 0), (1, .long x1), (3, .int x3), (4, .int x4), (5, .int y97_5), (6, .int y65_6), (7, .int ((y97_7 + 1)))] ⟨rfl, ⟨rfl, ⟨rfl, ⟨rfl, ⟨rfl, ⟨rfl, ⟨rfl, trivial⟩⟩⟩⟩⟩⟩⟩ ⟨rfl, ⟨rfl, ⟨rfl, ⟨rfl, ⟨rfl, ⟨rfl, ⟨rfl, trivial⟩⟩⟩⟩⟩⟩⟩ (ih28 y97_5 ((y97_7 + 1)) h)
                  · rw [if_neg c102] at h
                    refine rjt (a := (57, [(0, .ref 0), (1, .long x1), (3, .int x3), (4, .int x4), (5, .int y97_5), (6, .int y65_6), (7, .int y97_7)], [])) (b := (54, [(0, .ref 0), (1, .long x1), (3, .int x3), (4, .int x4), (5, .int y97_5), (6, .int y65_6), (7, .int y97_7)], [])) rfl rfl c102 ?_
                    refine rsn 2 (t := (60, [(8, .int 0), (0, .ref 0), (1, .long x1), (3, .int x3), (4, .int x4), (5, .int y97_5), (6, .int y65_6), (7, .int y97_7)], [])) rfl ?_
                    have ex60 : ∀ (z114_5 : Int32) (z114_8 : Int32), (f_Mo_backed_L28 N x1 x3 x4 y65_6 m (fun (z96_5 : Int32) (z96_7 : Int32) => f_Mo_backed_L19 N x1 x3 x4 m (fun (z64_5 : Int32) (z64_6 : Int32) => some z64_5) n19 z96_5 ((y65_6 + 1))) n28 z114_5 ((y97_7 + 1))) = some r0 → RN xs L al (Ev xs L al d) 186 151 [(0, .ref 0), (1, .long x1), (3, .int x3), (4, .int x4), (5, .int z114_5), (6, .int y65_6), (7, .int y97_7)] [] (m, S) (some (.int r0)) (m, S) := by
                      intro z114_5 z114_8 h
                      try dsimp only at h
                      refine rsn 2 (t := (28, [(7, .int ((y97_7 + 1))), (0, .ref 0), (1, .long x1), (3, .int x3), (4, .int x4), (5, .int z114_5), (6, .int y65_6)], [])) rfl ?_
                      exact rsub [(0, .ref 0), (1, .long x1), (3, .int x3), (4, .int x4), (5, .int z114_5), (6, .int y65_6), (7, .int ((y97_7 + 1)))] ⟨rfl, ⟨rfl, ⟨rfl, ⟨rfl, ⟨rfl, ⟨rfl, ⟨rfl, trivial⟩⟩⟩⟩⟩⟩⟩ ⟨rfl, ⟨rfl, ⟨rfl, ⟨rfl, ⟨rfl, ⟨rfl, ⟨rfl, trivial⟩⟩⟩⟩⟩⟩⟩ (ih28 z114_5 ((y97_7 + 1)) h)
                    have lp60 : ∀ (n : Nat) (y115_5 : Int32) (y115_8 : Int32), (f_Mo_backed_L60 N x1 x3 x4 y65_6 y97_7 m (fun (z114_5 : Int32) (z114_8 : Int32) => f_Mo_backed_L28 N x1 x3 x4 y65_6 m (fun (z96_5 : Int32) (z96_7 : Int32) => f_Mo_backed_L19 N x1 x3 x4 m (fun (z64_5 : Int32) (z64_6 : Int32) => some z64_5) n19 z96_5 ((y65_6 + 1))) n28 z114_5 ((y97_7 + 1))) n y115_5 y115_8) = some r0 → RN xs L al (Ev xs L al d) 186 60 [(0, .ref 0), (1, .long x1), (3, .int x3), (4, .int x4), (5, .int y115_5), (6, .int y65_6), (7, .int y97_7), (8, .int y115_8)] [] (m, S) (some (.int r0)) (m, S) := by
                      intro n
                      induction n with
                      | zero => intro y115_5 y115_8 h; exact absurd h (by simp [f_Mo_backed_L60])
                      | succ n60 ih60 =>
                        intro y115_5 y115_8 h
                        try dsimp only at h
                        rw [f_Mo_backed_L60] at h
                        try dsimp only at h
                        refine rsn 2 (t := (63, [(0, .ref 0), (1, .long x1), (3, .int x3), (4, .int x4), (5, .int y115_5), (6, .int y65_6), (7, .int y97_7), (8, .int y115_8)], [.int 3, .int y115_8])) rfl ?_
                        by_cases c116 : 3 ≤ y115_8
                        · rw [if_pos c116] at h
                          refine rjt (a := (151, [(0, .ref 0), (1, .long x1), (3, .int x3), (4, .int x4), (5, .int y115_5), (6, .int y65_6), (7, .int y97_7), (8, .int y115_8)], [])) (b := (66, [(0, .ref 0), (1, .long x1), (3, .int x3), (4, .int x4), (5, .int y115_5), (6, .int y65_6), (7, .int y97_7), (8, .int y115_8)], [])) rfl rfl c116 ?_
                          exact rsub [(0, .ref 0), (1, .long x1), (3, .int x3), (4, .int x4), (5, .int y115_5), (6, .int y65_6), (7, .int y97_7)] ⟨rfl, ⟨rfl, ⟨rfl, ⟨rfl, ⟨rfl, ⟨rfl, ⟨rfl, trivial⟩⟩⟩⟩⟩⟩⟩ ⟨rfl, ⟨rfl, ⟨rfl, ⟨rfl, ⟨rfl, ⟨rfl, ⟨rfl, trivial⟩⟩⟩⟩⟩⟩⟩ (ex60 y115_5 y115_8 h)
                        · rw [if_neg c116] at h
                          refine rjf (a := (151, [(0, .ref 0), (1, .long x1), (3, .int x3), (4, .int x4), (5, .int y115_5), (6, .int y65_6), (7, .int y97_7), (8, .int y115_8)], [])) (b := (66, [(0, .ref 0), (1, .long x1), (3, .int x3), (4, .int x4), (5, .int y115_5), (6, .int y65_6), (7, .int y97_7), (8, .int y115_8)], [])) rfl rfl c116 ?_
                          refine rsn 2 (t := (70, [(0, .ref 0), (1, .long x1), (3, .int x3), (4, .int x4), (5, .int y115_5), (6, .int y65_6), (7, .int y97_7), (8, .int y115_8)], [.int y65_6, .int y115_8])) rfl ?_
                          by_cases c117 : y115_8 = y65_6
                          · rw [if_pos c117] at h
                            refine rjt (a := (145, [(0, .ref 0), (1, .long x1), (3, .int x3), (4, .int x4), (5, .int y115_5), (6, .int y65_6), (7, .int y97_7), (8, .int y115_8)], [])) (b := (73, [(0, .ref 0), (1, .long x1), (3, .int x3), (4, .int x4), (5, .int y115_5), (6, .int y65_6), (7, .int y97_7), (8, .int y115_8)], [])) rfl rfl c117 ?_
                            refine rsn 2 (t := (60, [(8, .int ((y115_8 + 1))), (0, .ref 0), (1, .long x1), (3, .int x3), (4, .int x4), (5, .int y115_5), (6, .int y65_6), (7, .int y97_7)], [])) rfl ?_
                            exact rsub [(0, .ref 0), (1, .long x1), (3, .int x3), (4, .int x4), (5, .int y115_5), (6, .int y65_6), (7, .int y97_7), (8, .int ((y115_8 + 1)))] ⟨rfl, ⟨rfl, ⟨rfl, ⟨rfl, ⟨rfl, ⟨rfl, ⟨rfl, ⟨rfl, trivial⟩⟩⟩⟩⟩⟩⟩⟩ ⟨rfl, ⟨rfl, ⟨rfl, ⟨rfl, ⟨rfl, ⟨rfl, ⟨rfl, ⟨rfl, trivial⟩⟩⟩⟩⟩⟩⟩⟩ (ih60 y115_5 ((y115_8 + 1)) h)
                          · rw [if_neg c117] at h
                            refine rjf (a := (145, [(0, .ref 0), (1, .long x1), (3, .int x3), (4, .int x4), (5, .int y115_5), (6, .int y65_6), (7, .int y97_7), (8, .int y115_8)], [])) (b := (73, [(0, .ref 0), (1, .long x1), (3, .int x3), (4, .int x4), (5, .int y115_5), (6, .int y65_6), (7, .int y97_7), (8, .int y115_8)], [])) rfl rfl c117 ?_
                            refine rsn 2 (t := (76, [(0, .ref 0), (1, .long x1), (3, .int x3), (4, .int x4), (5, .int y115_5), (6, .int y65_6), (7, .int y97_7), (8, .int y115_8)], [.int y115_8, .long x1])) rfl ?_
                            obtain ⟨r118, g118, h⟩ := b1_some h
                            refine rcS 173 [.long x1, .int y115_8] rfl rfl rfl (Nat.le_of_ble_eq_true rfl) rfl (e_Mo_hasCome N (by omega) g118) ?_
                            show RN xs L al (Ev xs L al d) 186 79 [(0, .ref 0), (1, .long x1), (3, .int x3), (4, .int x4), (5, .int y115_5), (6, .int y65_6), (7, .int y97_7), (8, .int y115_8)] [.int r118] (m, S) (some (.int r0)) (m, S)
                            by_cases c119 : r118 = 0
                            · rw [if_pos c119] at h
                              refine rjf (a := (85, [(0, .ref 0), (1, .long x1), (3, .int x3), (4, .int x4), (5, .int y115_5), (6, .int y65_6), (7, .int y97_7), (8, .int y115_8)], [])) (b := (82, [(0, .ref 0), (1, .long x1), (3, .int x3), (4, .int x4), (5, .int y115_5), (6, .int y65_6), (7, .int y97_7), (8, .int y115_8)], [])) rfl rfl (fun q => q c119) ?_
                              refine rsn 3 (t := (60, [(8, .int ((y115_8 + 1))), (0, .ref 0), (1, .long x1), (3, .int x3), (4, .int x4), (5, .int y115_5), (6, .int y65_6), (7, .int y97_7)], [])) rfl ?_
                              exact rsub [(0, .ref 0), (1, .long x1), (3, .int x3), (4, .int x4), (5, .int y115_5), (6, .int y65_6), (7, .int y97_7), (8, .int ((y115_8 + 1)))] ⟨rfl, ⟨rfl, ⟨rfl, ⟨rfl, ⟨rfl, ⟨rfl, ⟨rfl, ⟨rfl, trivial⟩⟩⟩⟩⟩⟩⟩⟩ ⟨rfl, ⟨rfl, ⟨rfl, ⟨rfl, ⟨rfl, ⟨rfl, ⟨rfl, ⟨rfl, trivial⟩⟩⟩⟩⟩⟩⟩⟩ (ih60 y115_5 ((y115_8 + 1)) h)
                            · rw [if_neg c119] at h
                              refine rjt (a := (85, [(0, .ref 0), (1, .long x1), (3, .int x3), (4, .int x4), (5, .int y115_5), (6, .int y65_6), (7, .int y97_7), (8, .int y115_8)], [])) (b := (82, [(0, .ref 0), (1, .long x1), (3, .int x3), (4, .int x4), (5, .int y115_5), (6, .int y65_6), (7, .int y97_7), (8, .int y115_8)], [])) rfl rfl c119 ?_
                              refine rsn 3 (t := (90, [(0, .ref 0), (1, .long x1), (3, .int x3), (4, .int x4), (5, .int y115_5), (6, .int y65_6), (7, .int y97_7), (8, .int y115_8)], [.int y97_7, .int y65_6, .long x1])) rfl ?_
                              obtain ⟨r120, g120, h⟩ := b1_some h
                              refine rcS 182 [.int y65_6, .int y97_7] rfl rfl rfl (Nat.le_of_ble_eq_true rfl) rfl (e_Mo_one N (by omega) g120) ?_
                              show RN xs L al (Ev xs L al d) 186 93 [(0, .ref 0), (1, .long x1), (3, .int x3), (4, .int x4), (5, .int y115_5), (6, .int y65_6), (7, .int y97_7), (8, .int y115_8)] [.long r120, .long x1] (m, S) (some (.int r0)) (m, S)
                              refine rsn 3 (t := (98, [(0, .ref 0), (1, .long x1), (3, .int x3), (4, .int x4), (5, .int y115_5), (6, .int y65_6), (7, .int y97_7), (8, .int y115_8)], [.int y97_7, .int y115_8, .long ((x1 - r120))])) rfl ?_
                              obtain ⟨r121, g121, h⟩ := b1_some h
                              refine rcS 182 [.int y115_8, .int y97_7] rfl rfl rfl (Nat.le_of_ble_eq_true rfl) rfl (e_Mo_one N (by omega) g121) ?_
                              show RN xs L al (Ev xs L al d) 186 101 [(0, .ref 0), (1, .long x1), (3, .int x3), (4, .int x4), (5, .int y115_5), (6, .int y65_6), (7, .int y97_7), (8, .int y115_8)] [.long r121, .long ((x1 - r120))] (m, S) (some (.int r0)) (m, S)
                              refine rsn 4 (t := (107, [(9, .long ((((x1 - r120)) + r121))), (0, .ref 0), (1, .long x1), (3, .int x3), (4, .int x4), (5, .int y115_5), (6, .int y65_6), (7, .int y97_7), (8, .int y115_8)], [.int 1, .int x4])) rfl ?_
                              have jp127 : ∀ (s122 : Int32), ((if s122 ≤ y115_5 then f_Mo_backed_L60 N x1 x3 x4 y65_6 y97_7 m (fun (z114_5 : Int32) (z114_8 : Int32) => f_Mo_backed_L28 N x1 x3 x4 y65_6 m (fun (z96_5 : Int32) (z96_7 : Int32) => f_Mo_backed_L19 N x1 x3 x4 m (fun (z64_5 : Int32) (z64_6 : Int32) => some z64_5) n19 z96_5 ((y65_6 + 1))) n28 z114_5 ((y97_7 + 1))) n60 y115_5 ((y115_8 + 1)) else f_Mo_backed_L60 N x1 x3 x4 y65_6 y97_7 m (fun (z114_5 : Int32) (z114_8 : Int32) => f_Mo_backed_L28 N x1 x3 x4 y65_6 m (fun (z96_5 : Int32) (z96_7 : Int32) => f_Mo_backed_L19 N x1 x3 x4 m (fun (z64_5 : Int32) (z64_6 : Int32) => some z64_5) n19 z96_5 ((y65_6 + 1))) n28 z114_5 ((y97_7 + 1))) n60 s122 ((y115_8 + 1)))) = some r0 → RN xs L al (Ev xs L al d) 186 127 [(0, .ref 0), (1, .long x1), (3, .int x3), (4, .int x4), (5, .int y115_5), (6, .int y65_6), (7, .int y97_7), (8, .int y115_8)] [.int s122] (m, S) (some (.int r0)) (m, S) := by
                                intro s122 h
                                try dsimp only at h
                                refine rsn 3 (t := (133, [(11, .int s122), (0, .ref 0), (1, .long x1), (3, .int x3), (4, .int x4), (5, .int y115_5), (6, .int y65_6), (7, .int y97_7), (8, .int y115_8)], [.int y115_5, .int s122])) rfl ?_
                                by_cases c123 : s122 ≤ y115_5
                                · rw [if_pos c123] at h
                                  refine rjt (a := (141, [(11, .int s122), (0, .ref 0), (1, .long x1), (3, .int x3), (4, .int x4), (5, .int y115_5), (6, .int y65_6), (7, .int y97_7), (8, .int y115_8)], [])) (b := (136, [(11, .int s122), (0, .ref 0), (1, .long x1), (3, .int x3), (4, .int x4), (5, .int y115_5), (6, .int y65_6), (7, .int y97_7), (8, .int y115_8)], [])) rfl rfl c123 ?_
                                  refine rsn 4 (t := (60, [(8, .int ((y115_8 + 1))), (5, .int y115_5), (11, .int s122), (0, .ref 0), (1, .long x1), (3, .int x3), (4, .int x4), (6, .int y65_6), (7, .int y97_7)], [])) rfl ?_
                                  exact rsub [(0, .ref 0), (1, .long x1), (3, .int x3), (4, .int x4), (5, .int y115_5), (6, .int y65_6), (7, .int y97_7), (8, .int ((y115_8 + 1)))] ⟨rfl, ⟨rfl, ⟨rfl, ⟨rfl, ⟨rfl, ⟨rfl, ⟨rfl, ⟨rfl, trivial⟩⟩⟩⟩⟩⟩⟩⟩ ⟨rfl, ⟨rfl, ⟨rfl, ⟨rfl, ⟨rfl, ⟨rfl, ⟨rfl, ⟨rfl, trivial⟩⟩⟩⟩⟩⟩⟩⟩ (ih60 y115_5 ((y115_8 + 1)) h)
                                · rw [if_neg c123] at h
                                  refine rjf (a := (141, [(11, .int s122), (0, .ref 0), (1, .long x1), (3, .int x3), (4, .int x4), (5, .int y115_5), (6, .int y65_6), (7, .int y97_7), (8, .int y115_8)], [])) (b := (136, [(11, .int s122), (0, .ref 0), (1, .long x1), (3, .int x3), (4, .int x4), (5, .int y115_5), (6, .int y65_6), (7, .int y97_7), (8, .int y115_8)], [])) rfl rfl c123 ?_
                                  refine rsn 5 (t := (60, [(8, .int ((y115_8 + 1))), (5, .int s122), (11, .int s122), (0, .ref 0), (1, .long x1), (3, .int x3), (4, .int x4), (6, .int y65_6), (7, .int y97_7)], [])) rfl ?_
                                  exact rsub [(0, .ref 0), (1, .long x1), (3, .int x3), (4, .int x4), (5, .int s122), (6, .int y65_6), (7, .int y97_7), (8, .int ((y115_8 + 1)))] ⟨rfl, ⟨rfl, ⟨rfl, ⟨rfl, ⟨rfl, ⟨rfl, ⟨rfl, ⟨rfl, trivial⟩⟩⟩⟩⟩⟩⟩⟩ ⟨rfl, ⟨rfl, ⟨rfl, ⟨rfl, ⟨rfl, ⟨rfl, ⟨rfl, ⟨rfl, trivial⟩⟩⟩⟩⟩⟩⟩⟩ (ih60 s122 ((y115_8 + 1)) h)
                              rw [jn] at h
                              try dsimp only at h
                              by_cases c124 : x4 = 1
                              · rw [if_pos c124] at h
                                refine rjf (a := (120, [(9, .long ((((x1 - r120)) + r121))), (0, .ref 0), (1, .long x1), (3, .int x3), (4, .int x4), (5, .int y115_5), (6, .int y65_6), (7, .int y97_7), (8, .int y115_8)], [])) (b := (110, [(9, .long ((((x1 - r120)) + r121))), (0, .ref 0), (1, .long x1), (3, .int x3), (4, .int x4), (5, .int y115_5), (6, .int y65_6), (7, .int y97_7), (8, .int y115_8)], [])) rfl rfl (fun q => q c124) ?_
                                refine rsn 3 (t := (114, [(9, .long ((((x1 - r120)) + r121))), (0, .ref 0), (1, .long x1), (3, .int x3), (4, .int x4), (5, .int y115_5), (6, .int y65_6), (7, .int y97_7), (8, .int y115_8)], [.int x3, .long ((((x1 - r120)) + r121)), .ref 0])) rfl ?_
                                obtain ⟨r126, g126, h⟩ := b1_some h
                                refine rcV 187 0 [.long ((((x1 - r120)) + r121)), .int x3] rfl rfl rfl (hSh.k 0 rfl _) (Nat.le_of_ble_eq_true rfl) rfl (e_Mo_goalOf N (by omega) hSh g126) ?_
                                show RN xs L al (Ev xs L al d) 186 117 [(9, .long ((((x1 - r120)) + r121))), (0, .ref 0), (1, .long x1), (3, .int x3), (4, .int x4), (5, .int y115_5), (6, .int y65_6), (7, .int y97_7), (8, .int y115_8)] [.int r126] (m, S) (some (.int r0)) (m, S)
                                refine rsn 1 (t := (127, [(9, .long ((((x1 - r120)) + r121))), (0, .ref 0), (1, .long x1), (3, .int x3), (4, .int x4), (5, .int y115_5), (6, .int y65_6), (7, .int y97_7), (8, .int y115_8)], [.int r126])) rfl ?_
                                exact rsub [(0, .ref 0), (1, .long x1), (3, .int x3), (4, .int x4), (5, .int y115_5), (6, .int y65_6), (7, .int y97_7), (8, .int y115_8)] ⟨rfl, ⟨rfl, ⟨rfl, ⟨rfl, ⟨rfl, ⟨rfl, ⟨rfl, ⟨rfl, trivial⟩⟩⟩⟩⟩⟩⟩⟩ ⟨rfl, ⟨rfl, ⟨rfl, ⟨rfl, ⟨rfl, ⟨rfl, ⟨rfl, ⟨rfl, trivial⟩⟩⟩⟩⟩⟩⟩⟩ (jp127 r126 h)
                              · rw [if_neg c124] at h
                                refine rjt (a := (120, [(9, .long ((((x1 - r120)) + r121))), (0, .ref 0), (1, .long x1), (3, .int x3), (4, .int x4), (5, .int y115_5), (6, .int y65_6), (7, .int y97_7), (8, .int y115_8)], [])) (b := (110, [(9, .long ((((x1 - r120)) + r121))), (0, .ref 0), (1, .long x1), (3, .int x3), (4, .int x4), (5, .int y115_5), (6, .int y65_6), (7, .int y97_7), (8, .int y115_8)], [])) rfl rfl c124 ?_
                                refine rsn 3 (t := (124, [(9, .long ((((x1 - r120)) + r121))), (0, .ref 0), (1, .long x1), (3, .int x3), (4, .int x4), (5, .int y115_5), (6, .int y65_6), (7, .int y97_7), (8, .int y115_8)], [.int x3, .long ((((x1 - r120)) + r121)), .ref 0])) rfl ?_
                                obtain ⟨r125, g125, h⟩ := b1_some h
                                refine rcV 191 0 [.long ((((x1 - r120)) + r121)), .int x3] rfl rfl rfl (hSh.k 0 rfl _) (Nat.le_of_ble_eq_true rfl) rfl (e_Mo_twice N (by omega) hSh g125) ?_
                                show RN xs L al (Ev xs L al d) 186 127 [(9, .long ((((x1 - r120)) + r121))), (0, .ref 0), (1, .long x1), (3, .int x3), (4, .int x4), (5, .int y115_5), (6, .int y65_6), (7, .int y97_7), (8, .int y115_8)] [.int r125] (m, S) (some (.int r0)) (m, S)
                                exact rsub [(0, .ref 0), (1, .long x1), (3, .int x3), (4, .int x4), (5, .int y115_5), (6, .int y65_6), (7, .int y97_7), (8, .int y115_8)] ⟨rfl, ⟨rfl, ⟨rfl, ⟨rfl, ⟨rfl, ⟨rfl, ⟨rfl, ⟨rfl, trivial⟩⟩⟩⟩⟩⟩⟩⟩ ⟨rfl, ⟨rfl, ⟨rfl, ⟨rfl, ⟨rfl, ⟨rfl, ⟨rfl, ⟨rfl, trivial⟩⟩⟩⟩⟩⟩⟩⟩ (jp127 r125 h)
                    exact rsub [(0, .ref 0), (1, .long x1), (3, .int x3), (4, .int x4), (5, .int y97_5), (6, .int y65_6), (7, .int y97_7), (8, .int 0)] ⟨rfl, ⟨rfl, ⟨rfl, ⟨rfl, ⟨rfl, ⟨rfl, ⟨rfl, ⟨rfl, trivial⟩⟩⟩⟩⟩⟩⟩⟩ ⟨rfl, ⟨rfl, ⟨rfl, ⟨rfl, ⟨rfl, ⟨rfl, ⟨rfl, ⟨rfl, trivial⟩⟩⟩⟩⟩⟩⟩⟩ (lp60 N y97_5 0 h)
          exact rsub [(0, .ref 0), (1, .long x1), (3, .int x3), (4, .int x4), (5, .int y65_5), (6, .int y65_6), (7, .int 0)] ⟨rfl, ⟨rfl, ⟨rfl, ⟨rfl, ⟨rfl, ⟨rfl, ⟨rfl, trivial⟩⟩⟩⟩⟩⟩⟩ ⟨rfl, ⟨rfl, ⟨rfl, ⟨rfl, ⟨rfl, ⟨rfl, ⟨rfl, trivial⟩⟩⟩⟩⟩⟩⟩ (lp28 N y65_5 0 h)
    exact rsub [(0, .ref 0), (1, .long x1), (3, .int x3), (4, .int x4), (5, .int r1), (6, .int 0)] ⟨rfl, ⟨rfl, ⟨rfl, ⟨rfl, ⟨rfl, ⟨rfl, trivial⟩⟩⟩⟩⟩⟩ ⟨rfl, ⟨rfl, ⟨rfl, ⟨rfl, ⟨rfl, ⟨rfl, trivial⟩⟩⟩⟩⟩⟩ (lp19 N r1 0 h)
def f_Mo_ends_L30 (N : Nat) (x1 : Int64) (x3 : Int32) (x4 : Int32) (x5 : Int64) (m : Mm) (k30 : Int32 → Option (Int32 × Mm)) : Nat → Int32 → Option (Int32 × Mm)
  | 0, _ => none
  | n30 + 1, x7 => ck (ix x7 262144) ((if ((mYy m 14 x7.toNatClampNeg)) = 0 then k30 x7 else ck (ix x7 262144) ((if ((mYy m 14 x7.toNatClampNeg)) = x5 then k30 x7 else f_Mo_ends_L30 N x1 x3 x4 x5 m k30 n30 ((((x7 + 1)) &&& 262143))))))
def f_Mo_ends_L113 (N : Nat) (x1 : Int64) (x3 : Int32) (x4 : Int32) (x5 : Int64) (x7 : Int32) (x11 : Int32) (k113 : Int32 → Int64 → Int32 → Mm → Option (Int32 × Mm)) : Nat → Int32 → Int64 → Int32 → Mm → Option (Int32 × Mm)
  | 0, _, _, _, _ => none
  | n113 + 1, x8, x9, x12, m => (if x12 ≤ 0 then k113 x8 x9 x12 m else ck (ix x8 8) (b1 (f_Mo_one N 3 x11) fun r12 => f_Mo_ends_L113 N x1 x3 x4 x5 x7 x11 k113 n113 ((x8 + 1)) ((x9 - r12)) ((x12 + (-1))) ((vX m 16 x8.toNatClampNeg x11))))
def f_Mo_ends_L98 (N : Nat) (x1 : Int64) (x3 : Int32) (x4 : Int32) (x5 : Int64) (x7 : Int32) (k98 : Int32 → Int64 → Int32 → Mm → Option (Int32 × Mm)) : Nat → Int32 → Int64 → Int32 → Mm → Option (Int32 × Mm)
  | 0, _, _, _, _ => none
  | n98 + 1, x8, x9, x11, m => (if 3 ≤ x11 then k98 x8 x9 x11 m else b1 (f_Mo_things N x1 3 x11) fun r9 => f_Mo_ends_L113 N x1 x3 x4 x5 x7 x11 (fun (z13_8 : Int32) (z13_9 : Int64) (z13_12 : Int32) (m13 : Mm) => f_Mo_ends_L98 N x1 x3 x4 x5 x7 k98 n98 z13_8 z13_9 ((x11 + 1)) m13) N x8 x9 r9 m)
def f_Mo_ends_L216 (N : Nat) (x1 : Int64) (x3 : Int32) (x4 : Int32) (x5 : Int64) (x7 : Int32) (x8 : Int32) (x9 : Int64) (x11 : Int32) (x12 : Int32) (x13 : Int32) (m : Mm) (k216 : Int64 → Int32 → Int32 → Int32 → Option (Int32 × Mm)) : Nat → Int64 → Int32 → Int32 → Int32 → Option (Int32 × Mm)
  | 0, _, _, _, _ => none
  | n216 + 1, x14, x16, x17, x18 => (if x8 ≤ x18 then k216 x14 x16 x17 x18 else (jn (fun (s22 : Int32) => ck (ix x18 8) (b1 (f_Mo_one N ((irm x17 3)) ((mX m 16 x18.toNatClampNeg))) fun r24 => f_Mo_ends_L216 N x1 x3 x4 x5 x7 x8 x9 x11 x12 x13 m k216 n216 ((x14 + r24)) s22 ((x17 / 3)) ((x18 + 1)))) (fun j244 => jn (fun (_ : Unit) => j244 0) (fun j243 => if x16 = 0 then j243 () else b1 (f_Mo_hasCome N x1 ((irm x17 3))) fun r26 => (if r26 = 0 then j243 () else j244 1)))))
def f_Mo_ends_L195 (N : Nat) (x1 : Int64) (x3 : Int32) (x4 : Int32) (x5 : Int64) (x7 : Int32) (x8 : Int32) (x9 : Int64) (x11 : Int32) (m : Mm) (k195 : Int32 → Int32 → Option (Int32 × Mm)) : Nat → Int32 → Int32 → Option (Int32 × Mm)
  | 0, _, _ => none
  | n195 + 1, x12, x13 => (if x11 ≤ x13 then k195 x12 x13 else f_Mo_ends_L216 N x1 x3 x4 x5 x7 x8 x9 x11 x12 x13 m (fun (z28_14 : Int64) (z28_16 : Int32) (z28_17 : Int32) (z28_18 : Int32) => (if z28_16 = 0 then f_Mo_ends_L195 N x1 x3 x4 x5 x7 x8 x9 x11 m k195 n195 x12 ((x13 + 1)) else b1 (f_Mo_backed N z28_14 x3 x4 m) fun r30 => (if r30 ≤ x12 then f_Mo_ends_L195 N x1 x3 x4 x5 x7 x8 x9 x11 m k195 n195 x12 ((x13 + 1)) else f_Mo_ends_L195 N x1 x3 x4 x5 x7 x8 x9 x11 m k195 n195 r30 ((x13 + 1))))) N x9 1 x13 0)
def f_Mo_ends (N : Nat) (x1 : Int64) (x3 : Int32) (x4 : Int32) (m : Mm) : Option (Int32 × Mm) := f_Mo_ends_L30 N x1 x3 x4 ((((((lsl x1 4)) ||| ((((4 * x4.toInt64)) + x3.toInt64)))) + 1)) m (fun (z5_7 : Int32) => ck (ix z5_7 262144) ((if ((mYy m 14 z5_7.toNatClampNeg)) = ((((((lsl x1 4)) ||| ((((4 * x4.toInt64)) + x3.toInt64)))) + 1)) then ck (ix z5_7 262144) (some ((mX m 15 z5_7.toNatClampNeg), m)) else f_Mo_ends_L98 N x1 x3 x4 ((((((lsl x1 4)) ||| ((((4 * x4.toInt64)) + x3.toInt64)))) + 1)) z5_7 (fun (z18_8 : Int32) (z18_9 : Int64) (z18_11 : Int32) (m18 : Mm) => (jn (fun (s19 : Int32) => f_Mo_ends_L195 N x1 x3 x4 ((((((lsl x1 4)) ||| ((((4 * x4.toInt64)) + x3.toInt64)))) + 1)) z5_7 z18_8 z18_9 s19 m18 (fun (z40_12 : Int32) (z40_13 : Int32) => (if 131072 ≤ ((mI m18 0 33)) then some (z40_12, m18) else ck (ix z5_7 262144) (ck (ix z5_7 262144) (some (z40_12, (vI (vX (vY m18 14 z5_7.toNatClampNeg ((((((lsl x1 4)) ||| ((((4 * x4.toInt64)) + x3.toInt64)))) + 1))) 15 z5_7.toNatClampNeg z40_12) 0 33 ((((mI m18 0 33)) + 1)))))))) N ((-2147483648)) 0) (fun j185 => if z18_8 = 0 then j185 1 else (if z18_8 = 1 then j185 3 else (if z18_8 = 2 then j185 9 else j185 27))))) N 0 x1 0 m))) N (((lus ((((((((lsl x1 4)) ||| ((((4 * x4.toInt64)) + x3.toInt64)))) + 1)) * ((-7046029254386353131)))) 46)).toInt32)
set_option maxRecDepth 20000 in
set_option maxHeartbeats 4000000 in
theorem e_Mo_ends {xs : Nat → Int32} {L : Nat} {al : Bool} (N : Nat) {d : Nat} (hd : 7 ≤ d) {S : St} (hSh : ShR S) {x1 : Int64} {x3 : Int32} {x4 : Int32} {m : Mm} {r0 : Int32} {mf : Mm} (h : f_Mo_ends N x1 x3 x4 m = some (r0, mf)) : Ev xs L al d 185 [.ref 0, .long x1, .int x3, .int x4] (m, S) (some (.int r0)) (mf, S) := by
  obtain ⟨d, rfl⟩ : ∃ e, d = e + 1 := ⟨d - 1, by omega⟩
  refine ev_of (by decide) (Nat.le_of_ble_eq_true rfl) ?_
  rw [f_Mo_ends] at h
  show RN xs L al (Ev xs L al d) 185 0 [(0, .ref 0), (1, .long x1), (3, .int x3), (4, .int x4)] [] (m, S) (some (.int r0)) (mf, S)
  refine rsn 2 (t := (2, [(0, .ref 0), (1, .long x1), (3, .int x3), (4, .int x4)], [.int 4, .long x1])) rfl ?_
  refine rsn 1 (t := (3, [(0, .ref 0), (1, .long x1), (3, .int x3), (4, .int x4)], [.long ((lsl x1 4))])) rfl ?_
  refine rsn 15 (t := (26, [(5, .long ((((((lsl x1 4)) ||| ((((4 * x4.toInt64)) + x3.toInt64)))) + 1))), (0, .ref 0), (1, .long x1), (3, .int x3), (4, .int x4)], [.int 46, .long ((((((((lsl x1 4)) ||| ((((4 * x4.toInt64)) + x3.toInt64)))) + 1)) * ((-7046029254386353131))))])) rfl ?_
  refine rsn 1 (t := (27, [(5, .long ((((((lsl x1 4)) ||| ((((4 * x4.toInt64)) + x3.toInt64)))) + 1))), (0, .ref 0), (1, .long x1), (3, .int x3), (4, .int x4)], [.long ((lus ((((((((lsl x1 4)) ||| ((((4 * x4.toInt64)) + x3.toInt64)))) + 1)) * ((-7046029254386353131)))) 46))])) rfl ?_
  refine rsn 2 (t := (30, [(7, .int (((lus ((((((((lsl x1 4)) ||| ((((4 * x4.toInt64)) + x3.toInt64)))) + 1)) * ((-7046029254386353131)))) 46)).toInt32)), (5, .long ((((((lsl x1 4)) ||| ((((4 * x4.toInt64)) + x3.toInt64)))) + 1))), (0, .ref 0), (1, .long x1), (3, .int x3), (4, .int x4)], [])) rfl ?_
  have ex30 : ∀ (z5_7 : Int32), (ck (ix z5_7 262144) ((if ((mYy m 14 z5_7.toNatClampNeg)) = ((((((lsl x1 4)) ||| ((((4 * x4.toInt64)) + x3.toInt64)))) + 1)) then ck (ix z5_7 262144) (some ((mX m 15 z5_7.toNatClampNeg), m)) else f_Mo_ends_L98 N x1 x3 x4 ((((((lsl x1 4)) ||| ((((4 * x4.toInt64)) + x3.toInt64)))) + 1)) z5_7 (fun (z18_8 : Int32) (z18_9 : Int64) (z18_11 : Int32) (m18 : Mm) => (jn (fun (s19 : Int32) => f_Mo_ends_L195 N x1 x3 x4 ((((((lsl x1 4)) ||| ((((4 * x4.toInt64)) + x3.toInt64)))) + 1)) z5_7 z18_8 z18_9 s19 m18 (fun (z40_12 : Int32) (z40_13 : Int32) => (if 131072 ≤ ((mI m18 0 33)) then some (z40_12, m18) else ck (ix z5_7 262144) (ck (ix z5_7 262144) (some (z40_12, (vI (vX (vY m18 14 z5_7.toNatClampNeg ((((((lsl x1 4)) ||| ((((4 * x4.toInt64)) + x3.toInt64)))) + 1))) 15 z5_7.toNatClampNeg z40_12) 0 33 ((((mI m18 0 33)) + 1)))))))) N ((-2147483648)) 0) (fun j185 => if z18_8 = 0 then j185 1 else (if z18_8 = 1 then j185 3 else (if z18_8 = 2 then j185 9 else j185 27))))) N 0 x1 0 m))) = some (r0, mf) → RN xs L al (Ev xs L al d) 185 68 [(0, .ref 0), (1, .long x1), (3, .int x3), (4, .int x4), (5, .long ((((((lsl x1 4)) ||| ((((4 * x4.toInt64)) + x3.toInt64)))) + 1))), (7, .int z5_7)] [] (m, S) (some (.int r0)) (mf, S) := by
    intro z5_7 h
    try dsimp only at h
    refine rsn 1 (t := (69, [(0, .ref 0), (1, .long x1), (3, .int x3), (4, .int x4), (5, .long ((((((lsl x1 4)) ||| ((((4 * x4.toInt64)) + x3.toInt64)))) + 1))), (7, .int z5_7)], [.ref 0])) rfl ?_
    refine rgR rfl rfl rfl (hSh.k 0 rfl _) (hSh.r 13 rfl _) ?_
    refine rsn 1 (t := (74, [(0, .ref 0), (1, .long x1), (3, .int x3), (4, .int x4), (5, .long ((((((lsl x1 4)) ||| ((((4 * x4.toInt64)) + x3.toInt64)))) + 1))), (7, .int z5_7)], [.int z5_7, .ref 14])) rfl ?_
    obtain ⟨c6, h⟩ := ck_some h
    refine pxJ rfl (hSh.k 14 rfl _) (hSh.l 13 rfl _) c6 ?_
    show RN xs L al (Ev xs L al d) 185 75 [(0, .ref 0), (1, .long x1), (3, .int x3), (4, .int x4), (5, .long ((((((lsl x1 4)) ||| ((((4 * x4.toInt64)) + x3.toInt64)))) + 1))), (7, .int z5_7)] [.long ((mYy m 14 z5_7.toNatClampNeg))] (m, S) (some (.int r0)) (mf, S)
    refine rsn 2 (t := (78, [(0, .ref 0), (1, .long x1), (3, .int x3), (4, .int x4), (5, .long ((((((lsl x1 4)) ||| ((((4 * x4.toInt64)) + x3.toInt64)))) + 1))), (7, .int z5_7)], [.int ((lg_cmp ((mYy m 14 z5_7.toNatClampNeg)) ((((((lsl x1 4)) ||| ((((4 * x4.toInt64)) + x3.toInt64)))) + 1))))])) rfl ?_
    by_cases c7 : ((mYy m 14 z5_7.toNatClampNeg)) = ((((((lsl x1 4)) ||| ((((4 * x4.toInt64)) + x3.toInt64)))) + 1))
    · rw [if_pos c7] at h
      refine rjf (a := (89, [(0, .ref 0), (1, .long x1), (3, .int x3), (4, .int x4), (5, .long ((((((lsl x1 4)) ||| ((((4 * x4.toInt64)) + x3.toInt64)))) + 1))), (7, .int z5_7)], [])) (b := (81, [(0, .ref 0), (1, .long x1), (3, .int x3), (4, .int x4), (5, .long ((((((lsl x1 4)) ||| ((((4 * x4.toInt64)) + x3.toInt64)))) + 1))), (7, .int z5_7)], [])) rfl rfl (fun q => q (lgc_eq.mpr c7)) ?_
      refine rsn 1 (t := (82, [(0, .ref 0), (1, .long x1), (3, .int x3), (4, .int x4), (5, .long ((((((lsl x1 4)) ||| ((((4 * x4.toInt64)) + x3.toInt64)))) + 1))), (7, .int z5_7)], [.ref 0])) rfl ?_
      refine rgR rfl rfl rfl (hSh.k 0 rfl _) (hSh.r 14 rfl _) ?_
      refine rsn 1 (t := (87, [(0, .ref 0), (1, .long x1), (3, .int x3), (4, .int x4), (5, .long ((((((lsl x1 4)) ||| ((((4 * x4.toInt64)) + x3.toInt64)))) + 1))), (7, .int z5_7)], [.int z5_7, .ref 15])) rfl ?_
      obtain ⟨c79, h⟩ := ck_some h
      refine pxI rfl (hSh.k 15 rfl _) (hSh.l 14 rfl _) c79 ?_
      show RN xs L al (Ev xs L al d) 185 88 [(0, .ref 0), (1, .long x1), (3, .int x3), (4, .int x4), (5, .long ((((((lsl x1 4)) ||| ((((4 * x4.toInt64)) + x3.toInt64)))) + 1))), (7, .int z5_7)] [.int ((mX m 15 z5_7.toNatClampNeg))] (m, S) (some (.int r0)) (mf, S)
      cases h
      exact rret rfl ⟨rfl, rfl, _, _, rfl, rfl, rfl, rfl⟩
    · rw [if_neg c7] at h
      refine rjt (a := (89, [(0, .ref 0), (1, .long x1), (3, .int x3), (4, .int x4), (5, .long ((((((lsl x1 4)) ||| ((((4 * x4.toInt64)) + x3.toInt64)))) + 1))), (7, .int z5_7)], [])) (b := (81, [(0, .ref 0), (1, .long x1), (3, .int x3), (4, .int x4), (5, .long ((((((lsl x1 4)) ||| ((((4 * x4.toInt64)) + x3.toInt64)))) + 1))), (7, .int z5_7)], [])) rfl rfl (fun q => c7 (lgc_eq.mp q)) ?_
      refine rsn 6 (t := (98, [(11, .int 0), (9, .long x1), (8, .int 0), (0, .ref 0), (1, .long x1), (3, .int x3), (4, .int x4), (5, .long ((((((lsl x1 4)) ||| ((((4 * x4.toInt64)) + x3.toInt64)))) + 1))), (7, .int z5_7)], [])) rfl ?_
      have ex98 : ∀ (z18_8 : Int32) (z18_9 : Int64) (z18_11 : Int32) (m18 : Mm), ((jn (fun (s19 : Int32) => f_Mo_ends_L195 N x1 x3 x4 ((((((lsl x1 4)) ||| ((((4 * x4.toInt64)) + x3.toInt64)))) + 1)) z5_7 z18_8 z18_9 s19 m18 (fun (z40_12 : Int32) (z40_13 : Int32) => (if 131072 ≤ ((mI m18 0 33)) then some (z40_12, m18) else ck (ix z5_7 262144) (ck (ix z5_7 262144) (some (z40_12, (vI (vX (vY m18 14 z5_7.toNatClampNeg ((((((lsl x1 4)) ||| ((((4 * x4.toInt64)) + x3.toInt64)))) + 1))) 15 z5_7.toNatClampNeg z40_12) 0 33 ((((mI m18 0 33)) + 1)))))))) N ((-2147483648)) 0) (fun j185 => if z18_8 = 0 then j185 1 else (if z18_8 = 1 then j185 3 else (if z18_8 = 2 then j185 9 else j185 27))))) = some (r0, mf) → RN xs L al (Ev xs L al d) 185 153 [(0, .ref 0), (1, .long x1), (3, .int x3), (4, .int x4), (5, .long ((((((lsl x1 4)) ||| ((((4 * x4.toInt64)) + x3.toInt64)))) + 1))), (7, .int z5_7), (8, .int z18_8), (9, .long z18_9)] [] (m18, S) (some (.int r0)) (mf, S) := by
        intro z18_8 z18_9 z18_11 m18 h
        try dsimp only at h
        refine rsn 1 (t := (155, [(0, .ref 0), (1, .long x1), (3, .int x3), (4, .int x4), (5, .long ((((((lsl x1 4)) ||| ((((4 * x4.toInt64)) + x3.toInt64)))) + 1))), (7, .int z5_7), (8, .int z18_8), (9, .long z18_9)], [.int z18_8])) rfl ?_
        have jp185 : ∀ (s19 : Int32), (f_Mo_ends_L195 N x1 x3 x4 ((((((lsl x1 4)) ||| ((((4 * x4.toInt64)) + x3.toInt64)))) + 1)) z5_7 z18_8 z18_9 s19 m18 (fun (z40_12 : Int32) (z40_13 : Int32) => (if 131072 ≤ ((mI m18 0 33)) then some (z40_12, m18) else ck (ix z5_7 262144) (ck (ix z5_7 262144) (some (z40_12, (vI (vX (vY m18 14 z5_7.toNatClampNeg ((((((lsl x1 4)) ||| ((((4 * x4.toInt64)) + x3.toInt64)))) + 1))) 15 z5_7.toNatClampNeg z40_12) 0 33 ((((mI m18 0 33)) + 1)))))))) N ((-2147483648)) 0) = some (r0, mf) → RN xs L al (Ev xs L al d) 185 185 [(0, .ref 0), (1, .long x1), (3, .int x3), (4, .int x4), (5, .long ((((((lsl x1 4)) ||| ((((4 * x4.toInt64)) + x3.toInt64)))) + 1))), (7, .int z5_7), (8, .int z18_8), (9, .long z18_9)] [.int s19] (m18, S) (some (.int r0)) (mf, S) := by
          intro s19 h
          try dsimp only at h
          refine rsn 5 (t := (195, [(13, .int 0), (12, .int ((-2147483648))), (11, .int s19), (0, .ref 0), (1, .long x1), (3, .int x3), (4, .int x4), (5, .long ((((((lsl x1 4)) ||| ((((4 * x4.toInt64)) + x3.toInt64)))) + 1))), (7, .int z5_7), (8, .int z18_8), (9, .long z18_9)], [])) rfl ?_
          have ex195 : ∀ (z40_12 : Int32) (z40_13 : Int32), ((if 131072 ≤ ((mI m18 0 33)) then some (z40_12, m18) else ck (ix z5_7 262144) (ck (ix z5_7 262144) (some (z40_12, (vI (vX (vY m18 14 z5_7.toNatClampNeg ((((((lsl x1 4)) ||| ((((4 * x4.toInt64)) + x3.toInt64)))) + 1))) 15 z5_7.toNatClampNeg z40_12) 0 33 ((((mI m18 0 33)) + 1)))))))) = some (r0, mf) → RN xs L al (Ev xs L al d) 185 318 [(0, .ref 0), (5, .long ((((((lsl x1 4)) ||| ((((4 * x4.toInt64)) + x3.toInt64)))) + 1))), (7, .int z5_7), (12, .int z40_12)] [] (m18, S) (some (.int r0)) (mf, S) := by
            intro z40_12 z40_13 h
            try dsimp only at h
            refine rsn 1 (t := (319, [(0, .ref 0), (5, .long ((((((lsl x1 4)) ||| ((((4 * x4.toInt64)) + x3.toInt64)))) + 1))), (7, .int z5_7), (12, .int z40_12)], [.ref 0])) rfl ?_
            refine pgI rfl rfl rfl (hSh.k 0 rfl _) ?_
            show RN xs L al (Ev xs L al d) 185 322 [(0, .ref 0), (5, .long ((((((lsl x1 4)) ||| ((((4 * x4.toInt64)) + x3.toInt64)))) + 1))), (7, .int z5_7), (12, .int z40_12)] [.int ((mI m18 0 33))] (m18, S) (some (.int r0)) (mf, S)
            refine rsn 1 (t := (325, [(0, .ref 0), (5, .long ((((((lsl x1 4)) ||| ((((4 * x4.toInt64)) + x3.toInt64)))) + 1))), (7, .int z5_7), (12, .int z40_12)], [.int 131072, .int ((mI m18 0 33))])) rfl ?_
            by_cases c41 : 131072 ≤ ((mI m18 0 33))
            · rw [if_pos c41] at h
              refine rjt (a := (356, [(0, .ref 0), (5, .long ((((((lsl x1 4)) ||| ((((4 * x4.toInt64)) + x3.toInt64)))) + 1))), (7, .int z5_7), (12, .int z40_12)], [])) (b := (328, [(0, .ref 0), (5, .long ((((((lsl x1 4)) ||| ((((4 * x4.toInt64)) + x3.toInt64)))) + 1))), (7, .int z5_7), (12, .int z40_12)], [])) rfl rfl c41 ?_
              refine rsn 1 (t := (358, [(0, .ref 0), (5, .long ((((((lsl x1 4)) ||| ((((4 * x4.toInt64)) + x3.toInt64)))) + 1))), (7, .int z5_7), (12, .int z40_12)], [.int z40_12])) rfl ?_
              cases h
              exact rret rfl ⟨rfl, rfl, _, _, rfl, rfl, rfl, rfl⟩
            · rw [if_neg c41] at h
              refine rjf (a := (356, [(0, .ref 0), (5, .long ((((((lsl x1 4)) ||| ((((4 * x4.toInt64)) + x3.toInt64)))) + 1))), (7, .int z5_7), (12, .int z40_12)], [])) (b := (328, [(0, .ref 0), (5, .long ((((((lsl x1 4)) ||| ((((4 * x4.toInt64)) + x3.toInt64)))) + 1))), (7, .int z5_7), (12, .int z40_12)], [])) rfl rfl c41 ?_
              refine rsn 1 (t := (329, [(0, .ref 0), (5, .long ((((((lsl x1 4)) ||| ((((4 * x4.toInt64)) + x3.toInt64)))) + 1))), (7, .int z5_7), (12, .int z40_12)], [.ref 0])) rfl ?_
              refine rgR rfl rfl rfl (hSh.k 0 rfl _) (hSh.r 13 rfl _) ?_
              refine rsn 2 (t := (336, [(0, .ref 0), (5, .long ((((((lsl x1 4)) ||| ((((4 * x4.toInt64)) + x3.toInt64)))) + 1))), (7, .int z5_7), (12, .int z40_12)], [.long ((((((lsl x1 4)) ||| ((((4 * x4.toInt64)) + x3.toInt64)))) + 1)), .int z5_7, .ref 14])) rfl ?_
              obtain ⟨c42, h⟩ := ck_some h
              refine psJ rfl (hSh.k 14 rfl _) (hSh.l 13 rfl _) c42 ?_
              refine rsn 1 (t := (338, [(0, .ref 0), (5, .long ((((((lsl x1 4)) ||| ((((4 * x4.toInt64)) + x3.toInt64)))) + 1))), (7, .int z5_7), (12, .int z40_12)], [.ref 0])) rfl ?_
              refine rgR rfl rfl rfl (hSh.k 0 rfl _) (hSh.r 14 rfl _) ?_
              refine rsn 2 (t := (345, [(0, .ref 0), (5, .long ((((((lsl x1 4)) ||| ((((4 * x4.toInt64)) + x3.toInt64)))) + 1))), (7, .int z5_7), (12, .int z40_12)], [.int z40_12, .int z5_7, .ref 15])) rfl ?_
              obtain ⟨c43, h⟩ := ck_some h
              refine psI rfl (hSh.k 15 rfl _) (hSh.l 14 rfl _) c43 ?_
              refine rsn 2 (t := (348, [(0, .ref 0), (5, .long ((((((lsl x1 4)) ||| ((((4 * x4.toInt64)) + x3.toInt64)))) + 1))), (7, .int z5_7), (12, .int z40_12)], [.ref 0, .ref 0])) rfl ?_
              refine pgI rfl rfl rfl (hSh.k 0 rfl _) ?_
              show RN xs L al (Ev xs L al d) 185 351 [(0, .ref 0), (5, .long ((((((lsl x1 4)) ||| ((((4 * x4.toInt64)) + x3.toInt64)))) + 1))), (7, .int z5_7), (12, .int z40_12)] [.int ((mI m18 0 33)), .ref 0] ((vX (vY m18 14 z5_7.toNatClampNeg ((((((lsl x1 4)) ||| ((((4 * x4.toInt64)) + x3.toInt64)))) + 1))) 15 z5_7.toNatClampNeg z40_12), S) (some (.int r0)) (mf, S)
              refine rsn 2 (t := (353, [(0, .ref 0), (5, .long ((((((lsl x1 4)) ||| ((((4 * x4.toInt64)) + x3.toInt64)))) + 1))), (7, .int z5_7), (12, .int z40_12)], [.int ((((mI m18 0 33)) + 1)), .ref 0])) rfl ?_
              refine ppI rfl rfl rfl rfl (hSh.k 0 rfl _) ?_
              refine rsn 1 (t := (358, [(0, .ref 0), (5, .long ((((((lsl x1 4)) ||| ((((4 * x4.toInt64)) + x3.toInt64)))) + 1))), (7, .int z5_7), (12, .int z40_12)], [.int z40_12])) rfl ?_
              cases h
              exact rret rfl ⟨rfl, rfl, _, _, rfl, rfl, rfl, rfl⟩
          have lp195 : ∀ (n : Nat) (y44_12 : Int32) (y44_13 : Int32), (f_Mo_ends_L195 N x1 x3 x4 ((((((lsl x1 4)) ||| ((((4 * x4.toInt64)) + x3.toInt64)))) + 1)) z5_7 z18_8 z18_9 s19 m18 (fun (z40_12 : Int32) (z40_13 : Int32) => (if 131072 ≤ ((mI m18 0 33)) then some (z40_12, m18) else ck (ix z5_7 262144) (ck (ix z5_7 262144) (some (z40_12, (vI (vX (vY m18 14 z5_7.toNatClampNeg ((((((lsl x1 4)) ||| ((((4 * x4.toInt64)) + x3.toInt64)))) + 1))) 15 z5_7.toNatClampNeg z40_12) 0 33 ((((mI m18 0 33)) + 1)))))))) n y44_12 y44_13) = some (r0, mf) → RN xs L al (Ev xs L al d) 185 195 [(0, .ref 0), (1, .long x1), (3, .int x3), (4, .int x4), (5, .long ((((((lsl x1 4)) ||| ((((4 * x4.toInt64)) + x3.toInt64)))) + 1))), (7, .int z5_7), (8, .int z18_8), (9, .long z18_9), (11, .int s19), (12, .int y44_12), (13, .int y44_13)] [] (m18, S) (some (.int r0)) (mf, S) := by
            intro n
            induction n with
            | zero => intro y44_12 y44_13 h; exact absurd h (by simp [f_Mo_ends_L195])
            | succ n195 ih195 =>
              intro y44_12 y44_13 h
              try dsimp only at h
              rw [f_Mo_ends_L195] at h
              try dsimp only at h
              refine rsn 2 (t := (199, [(0, .ref 0), (1, .long x1), (3, .int x3), (4, .int x4), (5, .long ((((((lsl x1 4)) ||| ((((4 * x4.toInt64)) + x3.toInt64)))) + 1))), (7, .int z5_7), (8, .int z18_8), (9, .long z18_9), (11, .int s19), (12, .int y44_12), (13, .int y44_13)], [.int s19, .int y44_13])) rfl ?_
              by_cases c45 : s19 ≤ y44_13
              · rw [if_pos c45] at h
                refine rjt (a := (318, [(0, .ref 0), (1, .long x1), (3, .int x3), (4, .int x4), (5, .long ((((((lsl x1 4)) ||| ((((4 * x4.toInt64)) + x3.toInt64)))) + 1))), (7, .int z5_7), (8, .int z18_8), (9, .long z18_9), (11, .int s19), (12, .int y44_12), (13, .int y44_13)], [])) (b := (202, [(0, .ref 0), (1, .long x1), (3, .int x3), (4, .int x4), (5, .long ((((((lsl x1 4)) ||| ((((4 * x4.toInt64)) + x3.toInt64)))) + 1))), (7, .int z5_7), (8, .int z18_8), (9, .long z18_9), (11, .int s19), (12, .int y44_12), (13, .int y44_13)], [])) rfl rfl c45 ?_
                exact rsub [(0, .ref 0), (5, .long ((((((lsl x1 4)) ||| ((((4 * x4.toInt64)) + x3.toInt64)))) + 1))), (7, .int z5_7), (12, .int y44_12)] ⟨rfl, ⟨rfl, ⟨rfl, ⟨rfl, trivial⟩⟩⟩⟩ ⟨rfl, ⟨rfl, ⟨rfl, ⟨rfl, trivial⟩⟩⟩⟩ (ex195 y44_12 y44_13 h)
              · rw [if_neg c45] at h
                refine rjf (a := (318, [(0, .ref 0), (1, .long x1), (3, .int x3), (4, .int x4), (5, .long ((((((lsl x1 4)) ||| ((((4 * x4.toInt64)) + x3.toInt64)))) + 1))), (7, .int z5_7), (8, .int z18_8), (9, .long z18_9), (11, .int s19), (12, .int y44_12), (13, .int y44_13)], [])) (b := (202, [(0, .ref 0), (1, .long x1), (3, .int x3), (4, .int x4), (5, .long ((((((lsl x1 4)) ||| ((((4 * x4.toInt64)) + x3.toInt64)))) + 1))), (7, .int z5_7), (8, .int z18_8), (9, .long z18_9), (11, .int s19), (12, .int y44_12), (13, .int y44_13)], [])) rfl rfl c45 ?_
                refine rsn 8 (t := (216, [(18, .int 0), (17, .int y44_13), (16, .int 1), (14, .long z18_9), (0, .ref 0), (1, .long x1), (3, .int x3), (4, .int x4), (5, .long ((((((lsl x1 4)) ||| ((((4 * x4.toInt64)) + x3.toInt64)))) + 1))), (7, .int z5_7), (8, .int z18_8), (9, .long z18_9), (11, .int s19), (12, .int y44_12), (13, .int y44_13)], [])) rfl ?_
                have ex216 : ∀ (z53_14 : Int64) (z53_16 : Int32) (z53_17 : Int32) (z53_18 : Int32), ((if z53_16 = 0 then f_Mo_ends_L195 N x1 x3 x4 ((((((lsl x1 4)) ||| ((((4 * x4.toInt64)) + x3.toInt64)))) + 1)) z5_7 z18_8 z18_9 s19 m18 (fun (z40_12 : Int32) (z40_13 : Int32) => (if 131072 ≤ ((mI m18 0 33)) then some (z40_12, m18) else ck (ix z5_7 262144) (ck (ix z5_7 262144) (some (z40_12, (vI (vX (vY m18 14 z5_7.toNatClampNeg ((((((lsl x1 4)) ||| ((((4 * x4.toInt64)) + x3.toInt64)))) + 1))) 15 z5_7.toNatClampNeg z40_12) 0 33 ((((mI m18 0 33)) + 1)))))))) n195 y44_12 ((y44_13 + 1)) else b1 (f_Mo_backed N z53_14 x3 x4 m18) fun r55 => (if r55 ≤ y44_12 then f_Mo_ends_L195 N x1 x3 x4 ((((((lsl x1 4)) ||| ((((4 * x4.toInt64)) + x3.toInt64)))) + 1)) z5_7 z18_8 z18_9 s19 m18 (fun (z40_12 : Int32) (z40_13 : Int32) => (if 131072 ≤ ((mI m18 0 33)) then some (z40_12, m18) else ck (ix z5_7 262144) (ck (ix z5_7 262144) (some (z40_12, (vI (vX (vY m18 14 z5_7.toNatClampNeg ((((((lsl x1 4)) ||| ((((4 * x4.toInt64)) + x3.toInt64)))) + 1))) 15 z5_7.toNatClampNeg z40_12) 0 33 ((((mI m18 0 33)) + 1)))))))) n195 y44_12 ((y44_13 + 1)) else f_Mo_ends_L195 N x1 x3 x4 ((((((lsl x1 4)) ||| ((((4 * x4.toInt64)) + x3.toInt64)))) + 1)) z5_7 z18_8 z18_9 s19 m18 (fun (z40_12 : Int32) (z40_13 : Int32) => (if 131072 ≤ ((mI m18 0 33)) then some (z40_12, m18) else ck (ix z5_7 262144) (ck (ix z5_7 262144) (some (z40_12, (vI (vX (vY m18 14 z5_7.toNatClampNeg ((((((lsl x1 4)) ||| ((((4 * x4.toInt64)) + x3.toInt64)))) + 1))) 15 z5_7.toNatClampNeg z40_12) 0 33 ((((mI m18 0 33)) + 1)))))))) n195 r55 ((y44_13 + 1))))) = some (r0, mf) → RN xs L al (Ev xs L al d) 185 277 [(0, .ref 0), (1, .long x1), (3, .int x3), (4, .int x4), (5, .long ((((((lsl x1 4)) ||| ((((4 * x4.toInt64)) + x3.toInt64)))) + 1))), (7, .int z5_7), (8, .int z18_8), (9, .long z18_9), (11, .int s19), (12, .int y44_12), (13, .int y44_13), (14, .long z53_14), (16, .int z53_16)] [] (m18, S) (some (.int r0)) (mf, S) := by
                  intro z53_14 z53_16 z53_17 z53_18 h
                  try dsimp only at h
                  refine rsn 1 (t := (279, [(0, .ref 0), (1, .long x1), (3, .int x3), (4, .int x4), (5, .long ((((((lsl x1 4)) ||| ((((4 * x4.toInt64)) + x3.toInt64)))) + 1))), (7, .int z5_7), (8, .int z18_8), (9, .long z18_9), (11, .int s19), (12, .int y44_12), (13, .int y44_13), (14, .long z53_14), (16, .int z53_16)], [.int z53_16])) rfl ?_
                  by_cases c54 : z53_16 = 0
                  · rw [if_pos c54] at h
                    refine rjf (a := (285, [(0, .ref 0), (1, .long x1), (3, .int x3), (4, .int x4), (5, .long ((((((lsl x1 4)) ||| ((((4 * x4.toInt64)) + x3.toInt64)))) + 1))), (7, .int z5_7), (8, .int z18_8), (9, .long z18_9), (11, .int s19), (12, .int y44_12), (13, .int y44_13), (14, .long z53_14), (16, .int z53_16)], [])) (b := (282, [(0, .ref 0), (1, .long x1), (3, .int x3), (4, .int x4), (5, .long ((((((lsl x1 4)) ||| ((((4 * x4.toInt64)) + x3.toInt64)))) + 1))), (7, .int z5_7), (8, .int z18_8), (9, .long z18_9), (11, .int s19), (12, .int y44_12), (13, .int y44_13), (14, .long z53_14), (16, .int z53_16)], [])) rfl rfl (fun q => q c54) ?_
                    refine rsn 3 (t := (195, [(13, .int ((y44_13 + 1))), (0, .ref 0), (1, .long x1), (3, .int x3), (4, .int x4), (5, .long ((((((lsl x1 4)) ||| ((((4 * x4.toInt64)) + x3.toInt64)))) + 1))), (7, .int z5_7), (8, .int z18_8), (9, .long z18_9), (11, .int s19), (12, .int y44_12), (14, .long z53_14), (16, .int z53_16)], [])) rfl ?_
                    exact rsub [(0, .ref 0), (1, .long x1), (3, .int x3), (4, .int x4), (5, .long ((((((lsl x1 4)) ||| ((((4 * x4.toInt64)) + x3.toInt64)))) + 1))), (7, .int z5_7), (8, .int z18_8), (9, .long z18_9), (11, .int s19), (12, .int y44_12), (13, .int ((y44_13 + 1)))] ⟨rfl, ⟨rfl, ⟨rfl, ⟨rfl, ⟨rfl, ⟨rfl, ⟨rfl, ⟨rfl, ⟨rfl, ⟨rfl, ⟨rfl, trivial⟩⟩⟩⟩⟩⟩⟩⟩⟩⟩⟩ ⟨rfl, ⟨rfl, ⟨rfl, ⟨rfl, ⟨rfl, ⟨rfl, ⟨rfl, ⟨rfl, ⟨rfl, ⟨rfl, ⟨rfl, trivial⟩⟩⟩⟩⟩⟩⟩⟩⟩⟩⟩ (ih195 y44_12 ((y44_13 + 1)) h)
                  · rw [if_neg c54] at h
                    refine rjt (a := (285, [(0, .ref 0), (1, .long x1), (3, .int x3), (4, .int x4), (5, .long ((((((lsl x1 4)) ||| ((((4 * x4.toInt64)) + x3.toInt64)))) + 1))), (7, .int z5_7), (8, .int z18_8), (9, .long z18_9), (11, .int s19), (12, .int y44_12), (13, .int y44_13), (14, .long z53_14), (16, .int z53_16)], [])) (b := (282, [(0, .ref 0), (1, .long x1), (3, .int x3), (4, .int x4), (5, .long ((((((lsl x1 4)) ||| ((((4 * x4.toInt64)) + x3.toInt64)))) + 1))), (7, .int z5_7), (8, .int z18_8), (9, .long z18_9), (11, .int s19), (12, .int y44_12), (13, .int y44_13), (14, .long z53_14), (16, .int z53_16)], [])) rfl rfl c54 ?_
                    refine rsn 4 (t := (291, [(0, .ref 0), (1, .long x1), (3, .int x3), (4, .int x4), (5, .long ((((((lsl x1 4)) ||| ((((4 * x4.toInt64)) + x3.toInt64)))) + 1))), (7, .int z5_7), (8, .int z18_8), (9, .long z18_9), (11, .int s19), (12, .int y44_12), (13, .int y44_13), (14, .long z53_14), (16, .int z53_16)], [.int x4, .int x3, .long z53_14, .ref 0])) rfl ?_
                    obtain ⟨r55, g55, h⟩ := b1_some h
                    refine rcV 186 0 [.long z53_14, .int x3, .int x4] rfl rfl rfl (hSh.k 0 rfl _) (Nat.le_of_ble_eq_true rfl) rfl (e_Mo_backed N (by omega) hSh g55) ?_
                    show RN xs L al (Ev xs L al d) 185 294 [(0, .ref 0), (1, .long x1), (3, .int x3), (4, .int x4), (5, .long ((((((lsl x1 4)) ||| ((((4 * x4.toInt64)) + x3.toInt64)))) + 1))), (7, .int z5_7), (8, .int z18_8), (9, .long z18_9), (11, .int s19), (12, .int y44_12), (13, .int y44_13), (14, .long z53_14), (16, .int z53_16)] [.int r55] (m18, S) (some (.int r0)) (mf, S)
                    refine rsn 3 (t := (300, [(18, .int r55), (0, .ref 0), (1, .long x1), (3, .int x3), (4, .int x4), (5, .long ((((((lsl x1 4)) ||| ((((4 * x4.toInt64)) + x3.toInt64)))) + 1))), (7, .int z5_7), (8, .int z18_8), (9, .long z18_9), (11, .int s19), (12, .int y44_12), (13, .int y44_13), (14, .long z53_14), (16, .int z53_16)], [.int y44_12, .int r55])) rfl ?_
                    by_cases c56 : r55 ≤ y44_12
                    · rw [if_pos c56] at h
                      refine rjt (a := (308, [(18, .int r55), (0, .ref 0), (1, .long x1), (3, .int x3), (4, .int x4), (5, .long ((((((lsl x1 4)) ||| ((((4 * x4.toInt64)) + x3.toInt64)))) + 1))), (7, .int z5_7), (8, .int z18_8), (9, .long z18_9), (11, .int s19), (12, .int y44_12), (13, .int y44_13), (14, .long z53_14), (16, .int z53_16)], [])) (b := (303, [(18, .int r55), (0, .ref 0), (1, .long x1), (3, .int x3), (4, .int x4), (5, .long ((((((lsl x1 4)) ||| ((((4 * x4.toInt64)) + x3.toInt64)))) + 1))), (7, .int z5_7), (8, .int z18_8), (9, .long z18_9), (11, .int s19), (12, .int y44_12), (13, .int y44_13), (14, .long z53_14), (16, .int z53_16)], [])) rfl rfl c56 ?_
                      refine rsn 4 (t := (195, [(13, .int ((y44_13 + 1))), (12, .int y44_12), (18, .int r55), (0, .ref 0), (1, .long x1), (3, .int x3), (4, .int x4), (5, .long ((((((lsl x1 4)) ||| ((((4 * x4.toInt64)) + x3.toInt64)))) + 1))), (7, .int z5_7), (8, .int z18_8), (9, .long z18_9), (11, .int s19), (14, .long z53_14), (16, .int z53_16)], [])) rfl ?_
                      exact rsub [(0, .ref 0), (1, .long x1), (3, .int x3), (4, .int x4), (5, .long ((((((lsl x1 4)) ||| ((((4 * x4.toInt64)) + x3.toInt64)))) + 1))), (7, .int z5_7), (8, .int z18_8), (9, .long z18_9), (11, .int s19), (12, .int y44_12), (13, .int ((y44_13 + 1)))] ⟨rfl, ⟨rfl, ⟨rfl, ⟨rfl, ⟨rfl, ⟨rfl, ⟨rfl, ⟨rfl, ⟨rfl, ⟨rfl, ⟨rfl, trivial⟩⟩⟩⟩⟩⟩⟩⟩⟩⟩⟩ ⟨rfl, ⟨rfl, ⟨rfl, ⟨rfl, ⟨rfl, ⟨rfl, ⟨rfl, ⟨rfl, ⟨rfl, ⟨rfl, ⟨rfl, trivial⟩⟩⟩⟩⟩⟩⟩⟩⟩⟩⟩ (ih195 y44_12 ((y44_13 + 1)) h)
                    · rw [if_neg c56] at h
                      refine rjf (a := (308, [(18, .int r55), (0, .ref 0), (1, .long x1), (3, .int x3), (4, .int x4), (5, .long ((((((lsl x1 4)) ||| ((((4 * x4.toInt64)) + x3.toInt64)))) + 1))), (7, .int z5_7), (8, .int z18_8), (9, .long z18_9), (11, .int s19), (12, .int y44_12), (13, .int y44_13), (14, .long z53_14), (16, .int z53_16)], [])) (b := (303, [(18, .int r55), (0, .ref 0), (1, .long x1), (3, .int x3), (4, .int x4), (5, .long ((((((lsl x1 4)) ||| ((((4 * x4.toInt64)) + x3.toInt64)))) + 1))), (7, .int z5_7), (8, .int z18_8), (9, .long z18_9), (11, .int s19), (12, .int y44_12), (13, .int y44_13), (14, .long z53_14), (16, .int z53_16)], [])) rfl rfl c56 ?_
                      refine rsn 5 (t := (195, [(13, .int ((y44_13 + 1))), (12, .int r55), (18, .int r55), (0, .ref 0), (1, .long x1), (3, .int x3), (4, .int x4), (5, .long ((((((lsl x1 4)) ||| ((((4 * x4.toInt64)) + x3.toInt64)))) + 1))), (7, .int z5_7), (8, .int z18_8), (9, .long z18_9), (11, .int s19), (14, .long z53_14), (16, .int z53_16)], [])) rfl ?_
                      exact rsub [(0, .ref 0), (1, .long x1), (3, .int x3), (4, .int x4), (5, .long ((((((lsl x1 4)) ||| ((((4 * x4.toInt64)) + x3.toInt64)))) + 1))), (7, .int z5_7), (8, .int z18_8), (9, .long z18_9), (11, .int s19), (12, .int r55), (13, .int ((y44_13 + 1)))] ⟨rfl, ⟨rfl, ⟨rfl, ⟨rfl, ⟨rfl, ⟨rfl, ⟨rfl, ⟨rfl, ⟨rfl, ⟨rfl, ⟨rfl, trivial⟩⟩⟩⟩⟩⟩⟩⟩⟩⟩⟩ ⟨rfl, ⟨rfl, ⟨rfl, ⟨rfl, ⟨rfl, ⟨rfl, ⟨rfl, ⟨rfl, ⟨rfl, ⟨rfl, ⟨rfl, trivial⟩⟩⟩⟩⟩⟩⟩⟩⟩⟩⟩ (ih195 r55 ((y44_13 + 1)) h)
                have lp216 : ∀ (n : Nat) (y57_14 : Int64) (y57_16 : Int32) (y57_17 : Int32) (y57_18 : Int32), (f_Mo_ends_L216 N x1 x3 x4 ((((((lsl x1 4)) ||| ((((4 * x4.toInt64)) + x3.toInt64)))) + 1)) z5_7 z18_8 z18_9 s19 y44_12 y44_13 m18 (fun (z53_14 : Int64) (z53_16 : Int32) (z53_17 : Int32) (z53_18 : Int32) => (if z53_16 = 0 then f_Mo_ends_L195 N x1 x3 x4 ((((((lsl x1 4)) ||| ((((4 * x4.toInt64)) + x3.toInt64)))) + 1)) z5_7 z18_8 z18_9 s19 m18 (fun (z40_12 : Int32) (z40_13 : Int32) => (if 131072 ≤ ((mI m18 0 33)) then some (z40_12, m18) else ck (ix z5_7 262144) (ck (ix z5_7 262144) (some (z40_12, (vI (vX (vY m18 14 z5_7.toNatClampNeg ((((((lsl x1 4)) ||| ((((4 * x4.toInt64)) + x3.toInt64)))) + 1))) 15 z5_7.toNatClampNeg z40_12) 0 33 ((((mI m18 0 33)) + 1)))))))) n195 y44_12 ((y44_13 + 1)) else b1 (f_Mo_backed N z53_14 x3 x4 m18) fun r55 => (if r55 ≤ y44_12 then f_Mo_ends_L195 N x1 x3 x4 ((((((lsl x1 4)) ||| ((((4 * x4.toInt64)) + x3.toInt64)))) + 1)) z5_7 z18_8 z18_9 s19 m18 (fun (z40_12 : Int32) (z40_13 : Int32) => (if 131072 ≤ ((mI m18 0 33)) then some (z40_12, m18) else ck (ix z5_7 262144) (ck (ix z5_7 262144) (some (z40_12, (vI (vX (vY m18 14 z5_7.toNatClampNeg ((((((lsl x1 4)) ||| ((((4 * x4.toInt64)) + x3.toInt64)))) + 1))) 15 z5_7.toNatClampNeg z40_12) 0 33 ((((mI m18 0 33)) + 1)))))))) n195 y44_12 ((y44_13 + 1)) else f_Mo_ends_L195 N x1 x3 x4 ((((((lsl x1 4)) ||| ((((4 * x4.toInt64)) + x3.toInt64)))) + 1)) z5_7 z18_8 z18_9 s19 m18 (fun (z40_12 : Int32) (z40_13 : Int32) => (if 131072 ≤ ((mI m18 0 33)) then some (z40_12, m18) else ck (ix z5_7 262144) (ck (ix z5_7 262144) (some (z40_12, (vI (vX (vY m18 14 z5_7.toNatClampNeg ((((((lsl x1 4)) ||| ((((4 * x4.toInt64)) + x3.toInt64)))) + 1))) 15 z5_7.toNatClampNeg z40_12) 0 33 ((((mI m18 0 33)) + 1)))))))) n195 r55 ((y44_13 + 1))))) n y57_14 y57_16 y57_17 y57_18) = some (r0, mf) → RN xs L al (Ev xs L al d) 185 216 [(0, .ref 0), (1, .long x1), (3, .int x3), (4, .int x4), (5, .long ((((((lsl x1 4)) ||| ((((4 * x4.toInt64)) + x3.toInt64)))) + 1))), (7, .int z5_7), (8, .int z18_8), (9, .long z18_9), (11, .int s19), (12, .int y44_12), (13, .int y44_13), (14, .long y57_14), (16, .int y57_16), (17, .int y57_17), (18, .int y57_18)] [] (m18, S) (some (.int r0)) (mf, S) := by
                  intro n
                  induction n with
                  | zero => intro y57_14 y57_16 y57_17 y57_18 h; exact absurd h (by simp [f_Mo_ends_L216])
                  | succ n216 ih216 =>
                    intro y57_14 y57_16 y57_17 y57_18 h
                    try dsimp only at h
                    rw [f_Mo_ends_L216] at h
                    try dsimp only at h
                    refine rsn 2 (t := (220, [(0, .ref 0), (1, .long x1), (3, .int x3), (4, .int x4), (5, .long ((((((lsl x1 4)) ||| ((((4 * x4.toInt64)) + x3.toInt64)))) + 1))), (7, .int z5_7), (8, .int z18_8), (9, .long z18_9), (11, .int s19), (12, .int y44_12), (13, .int y44_13), (14, .long y57_14), (16, .int y57_16), (17, .int y57_17), (18, .int y57_18)], [.int z18_8, .int y57_18])) rfl ?_
                    by_cases c58 : z18_8 ≤ y57_18
                    · rw [if_pos c58] at h
                      refine rjt (a := (277, [(0, .ref 0), (1, .long x1), (3, .int x3), (4, .int x4), (5, .long ((((((lsl x1 4)) ||| ((((4 * x4.toInt64)) + x3.toInt64)))) + 1))), (7, .int z5_7), (8, .int z18_8), (9, .long z18_9), (11, .int s19), (12, .int y44_12), (13, .int y44_13), (14, .long y57_14), (16, .int y57_16), (17, .int y57_17), (18, .int y57_18)], [])) (b := (223, [(0, .ref 0), (1, .long x1), (3, .int x3), (4, .int x4), (5, .long ((((((lsl x1 4)) ||| ((((4 * x4.toInt64)) + x3.toInt64)))) + 1))), (7, .int z5_7), (8, .int z18_8), (9, .long z18_9), (11, .int s19), (12, .int y44_12), (13, .int y44_13), (14, .long y57_14), (16, .int y57_16), (17, .int y57_17), (18, .int y57_18)], [])) rfl rfl c58 ?_
                      exact rsub [(0, .ref 0), (1, .long x1), (3, .int x3), (4, .int x4), (5, .long ((((((lsl x1 4)) ||| ((((4 * x4.toInt64)) + x3.toInt64)))) + 1))), (7, .int z5_7), (8, .int z18_8), (9, .long z18_9), (11, .int s19), (12, .int y44_12), (13, .int y44_13), (14, .long y57_14), (16, .int y57_16)] ⟨rfl, ⟨rfl, ⟨rfl, ⟨rfl, ⟨rfl, ⟨rfl, ⟨rfl, ⟨rfl, ⟨rfl, ⟨rfl, ⟨rfl, ⟨rfl, ⟨rfl, trivial⟩⟩⟩⟩⟩⟩⟩⟩⟩⟩⟩⟩⟩ ⟨rfl, ⟨rfl, ⟨rfl, ⟨rfl, ⟨rfl, ⟨rfl, ⟨rfl, ⟨rfl, ⟨rfl, ⟨rfl, ⟨rfl, ⟨rfl, ⟨rfl, trivial⟩⟩⟩⟩⟩⟩⟩⟩⟩⟩⟩⟩⟩ (ex216 y57_14 y57_16 y57_17 y57_18 h)
                    · rw [if_neg c58] at h
                      refine rjf (a := (277, [(0, .ref 0), (1, .long x1), (3, .int x3), (4, .int x4), (5, .long ((((((lsl x1 4)) ||| ((((4 * x4.toInt64)) + x3.toInt64)))) + 1))), (7, .int z5_7), (8, .int z18_8), (9, .long z18_9), (11, .int s19), (12, .int y44_12), (13, .int y44_13), (14, .long y57_14), (16, .int y57_16), (17, .int y57_17), (18, .int y57_18)], [])) (b := (223, [(0, .ref 0), (1, .long x1), (3, .int x3), (4, .int x4), (5, .long ((((((lsl x1 4)) ||| ((((4 * x4.toInt64)) + x3.toInt64)))) + 1))), (7, .int z5_7), (8, .int z18_8), (9, .long z18_9), (11, .int s19), (12, .int y44_12), (13, .int y44_13), (14, .long y57_14), (16, .int y57_16), (17, .int y57_17), (18, .int y57_18)], [])) rfl rfl c58 ?_
                      refine rsn 1 (t := (225, [(0, .ref 0), (1, .long x1), (3, .int x3), (4, .int x4), (5, .long ((((((lsl x1 4)) ||| ((((4 * x4.toInt64)) + x3.toInt64)))) + 1))), (7, .int z5_7), (8, .int z18_8), (9, .long z18_9), (11, .int s19), (12, .int y44_12), (13, .int y44_13), (14, .long y57_14), (16, .int y57_16), (17, .int y57_17), (18, .int y57_18)], [.int y57_16])) rfl ?_
                      have jp244 : ∀ (s59 : Int32), (ck (ix y57_18 8) (b1 (f_Mo_one N ((irm y57_17 3)) ((mX m18 16 y57_18.toNatClampNeg))) fun r61 => f_Mo_ends_L216 N x1 x3 x4 ((((((lsl x1 4)) ||| ((((4 * x4.toInt64)) + x3.toInt64)))) + 1)) z5_7 z18_8 z18_9 s19 y44_12 y44_13 m18 (fun (z53_14 : Int64) (z53_16 : Int32) (z53_17 : Int32) (z53_18 : Int32) => (if z53_16 = 0 then f_Mo_ends_L195 N x1 x3 x4 ((((((lsl x1 4)) ||| ((((4 * x4.toInt64)) + x3.toInt64)))) + 1)) z5_7 z18_8 z18_9 s19 m18 (fun (z40_12 : Int32) (z40_13 : Int32) => (if 131072 ≤ ((mI m18 0 33)) then some (z40_12, m18) else ck (ix z5_7 262144) (ck (ix z5_7 262144) (some (z40_12, (vI (vX (vY m18 14 z5_7.toNatClampNeg ((((((lsl x1 4)) ||| ((((4 * x4.toInt64)) + x3.toInt64)))) + 1))) 15 z5_7.toNatClampNeg z40_12) 0 33 ((((mI m18 0 33)) + 1)))))))) n195 y44_12 ((y44_13 + 1)) else b1 (f_Mo_backed N z53_14 x3 x4 m18) fun r55 => (if r55 ≤ y44_12 then f_Mo_ends_L195 N x1 x3 x4 ((((((lsl x1 4)) ||| ((((4 * x4.toInt64)) + x3.toInt64)))) + 1)) z5_7 z18_8 z18_9 s19 m18 (fun (z40_12 : Int32) (z40_13 : Int32) => (if 131072 ≤ ((mI m18 0 33)) then some (z40_12, m18) else ck (ix z5_7 262144) (ck (ix z5_7 262144) (some (z40_12, (vI (vX (vY m18 14 z5_7.toNatClampNeg ((((((lsl x1 4)) ||| ((((4 * x4.toInt64)) + x3.toInt64)))) + 1))) 15 z5_7.toNatClampNeg z40_12) 0 33 ((((mI m18 0 33)) + 1)))))))) n195 y44_12 ((y44_13 + 1)) else f_Mo_ends_L195 N x1 x3 x4 ((((((lsl x1 4)) ||| ((((4 * x4.toInt64)) + x3.toInt64)))) + 1)) z5_7 z18_8 z18_9 s19 m18 (fun (z40_12 : Int32) (z40_13 : Int32) => (if 131072 ≤ ((mI m18 0 33)) then some (z40_12, m18) else ck (ix z5_7 262144) (ck (ix z5_7 262144) (some (z40_12, (vI (vX (vY m18 14 z5_7.toNatClampNeg ((((((lsl x1 4)) ||| ((((4 * x4.toInt64)) + x3.toInt64)))) + 1))) 15 z5_7.toNatClampNeg z40_12) 0 33 ((((mI m18 0 33)) + 1)))))))) n195 r55 ((y44_13 + 1))))) n216 ((y57_14 + r61)) s59 ((y57_17 / 3)) ((y57_18 + 1)))) = some (r0, mf) → RN xs L al (Ev xs L al d) 185 244 [(0, .ref 0), (1, .long x1), (3, .int x3), (4, .int x4), (5, .long ((((((lsl x1 4)) ||| ((((4 * x4.toInt64)) + x3.toInt64)))) + 1))), (7, .int z5_7), (8, .int z18_8), (9, .long z18_9), (11, .int s19), (12, .int y44_12), (13, .int y44_13), (14, .long y57_14), (17, .int y57_17), (18, .int y57_18)] [.int s59] (m18, S) (some (.int r0)) (mf, S) := by
                        intro s59 h
                        try dsimp only at h
                        refine rsn 4 (t := (251, [(16, .int s59), (0, .ref 0), (1, .long x1), (3, .int x3), (4, .int x4), (5, .long ((((((lsl x1 4)) ||| ((((4 * x4.toInt64)) + x3.toInt64)))) + 1))), (7, .int z5_7), (8, .int z18_8), (9, .long z18_9), (11, .int s19), (12, .int y44_12), (13, .int y44_13), (14, .long y57_14), (17, .int y57_17), (18, .int y57_18)], [.int 3, .int y57_17, .long y57_14])) rfl ?_
                        refine rsn 1 (t := (252, [(16, .int s59), (0, .ref 0), (1, .long x1), (3, .int x3), (4, .int x4), (5, .long ((((((lsl x1 4)) ||| ((((4 * x4.toInt64)) + x3.toInt64)))) + 1))), (7, .int z5_7), (8, .int z18_8), (9, .long z18_9), (11, .int s19), (12, .int y44_12), (13, .int y44_13), (14, .long y57_14), (17, .int y57_17), (18, .int y57_18)], [.int ((irm y57_17 3)), .long y57_14])) rfl ?_
                        refine rsn 1 (t := (253, [(16, .int s59), (0, .ref 0), (1, .long x1), (3, .int x3), (4, .int x4), (5, .long ((((((lsl x1 4)) ||| ((((4 * x4.toInt64)) + x3.toInt64)))) + 1))), (7, .int z5_7), (8, .int z18_8), (9, .long z18_9), (11, .int s19), (12, .int y44_12), (13, .int y44_13), (14, .long y57_14), (17, .int y57_17), (18, .int y57_18)], [.ref 0, .int ((irm y57_17 3)), .long y57_14])) rfl ?_
                        refine rgR rfl rfl rfl (hSh.k 0 rfl _) (hSh.r 15 rfl _) ?_
                        refine rsn 1 (t := (258, [(16, .int s59), (0, .ref 0), (1, .long x1), (3, .int x3), (4, .int x4), (5, .long ((((((lsl x1 4)) ||| ((((4 * x4.toInt64)) + x3.toInt64)))) + 1))), (7, .int z5_7), (8, .int z18_8), (9, .long z18_9), (11, .int s19), (12, .int y44_12), (13, .int y44_13), (14, .long y57_14), (17, .int y57_17), (18, .int y57_18)], [.int y57_18, .ref 16, .int ((irm y57_17 3)), .long y57_14])) rfl ?_
                        obtain ⟨c60, h⟩ := ck_some h
                        refine pxI rfl (hSh.k 16 rfl _) (hSh.l 15 rfl _) c60 ?_
                        show RN xs L al (Ev xs L al d) 185 259 [(16, .int s59), (0, .ref 0), (1, .long x1), (3, .int x3), (4, .int x4), (5, .long ((((((lsl x1 4)) ||| ((((4 * x4.toInt64)) + x3.toInt64)))) + 1))), (7, .int z5_7), (8, .int z18_8), (9, .long z18_9), (11, .int s19), (12, .int y44_12), (13, .int y44_13), (14, .long y57_14), (17, .int y57_17), (18, .int y57_18)] [.int ((mX m18 16 y57_18.toNatClampNeg)), .int ((irm y57_17 3)), .long y57_14] (m18, S) (some (.int r0)) (mf, S)
                        obtain ⟨r61, g61, h⟩ := b1_some h
                        refine rcS 182 [.int ((irm y57_17 3)), .int ((mX m18 16 y57_18.toNatClampNeg))] rfl rfl rfl (Nat.le_of_ble_eq_true rfl) rfl (e_Mo_one N (by omega) g61) ?_
                        show RN xs L al (Ev xs L al d) 185 262 [(16, .int s59), (0, .ref 0), (1, .long x1), (3, .int x3), (4, .int x4), (5, .long ((((((lsl x1 4)) ||| ((((4 * x4.toInt64)) + x3.toInt64)))) + 1))), (7, .int z5_7), (8, .int z18_8), (9, .long z18_9), (11, .int s19), (12, .int y44_12), (13, .int y44_13), (14, .long y57_14), (17, .int y57_17), (18, .int y57_18)] [.long r61, .long y57_14] (m18, S) (some (.int r0)) (mf, S)
                        refine rsn 4 (t := (268, [(14, .long ((y57_14 + r61))), (16, .int s59), (0, .ref 0), (1, .long x1), (3, .int x3), (4, .int x4), (5, .long ((((((lsl x1 4)) ||| ((((4 * x4.toInt64)) + x3.toInt64)))) + 1))), (7, .int z5_7), (8, .int z18_8), (9, .long z18_9), (11, .int s19), (12, .int y44_12), (13, .int y44_13), (17, .int y57_17), (18, .int y57_18)], [.int 3, .int y57_17])) rfl ?_
                        refine rsn 1 (t := (269, [(14, .long ((y57_14 + r61))), (16, .int s59), (0, .ref 0), (1, .long x1), (3, .int x3), (4, .int x4), (5, .long ((((((lsl x1 4)) ||| ((((4 * x4.toInt64)) + x3.toInt64)))) + 1))), (7, .int z5_7), (8, .int z18_8), (9, .long z18_9), (11, .int s19), (12, .int y44_12), (13, .int y44_13), (17, .int y57_17), (18, .int y57_18)], [.int ((y57_17 / 3))])) rfl ?_
                        refine rsn 3 (t := (216, [(18, .int ((y57_18 + 1))), (17, .int ((y57_17 / 3))), (14, .long ((y57_14 + r61))), (16, .int s59), (0, .ref 0), (1, .long x1), (3, .int x3), (4, .int x4), (5, .long ((((((lsl x1 4)) ||| ((((4 * x4.toInt64)) + x3.toInt64)))) + 1))), (7, .int z5_7), (8, .int z18_8), (9, .long z18_9), (11, .int s19), (12, .int y44_12), (13, .int y44_13)], [])) rfl ?_
                        exact rsub [(0, .ref 0), (1, .long x1), (3, .int x3), (4, .int x4), (5, .long ((((((lsl x1 4)) ||| ((((4 * x4.toInt64)) + x3.toInt64)))) + 1))), (7, .int z5_7), (8, .int z18_8), (9, .long z18_9), (11, .int s19), (12, .int y44_12), (13, .int y44_13), (14, .long ((y57_14 + r61))), (16, .int s59), (17, .int ((y57_17 / 3))), (18, .int ((y57_18 + 1)))] ⟨rfl, ⟨rfl, ⟨rfl, ⟨rfl, ⟨rfl, ⟨rfl, ⟨rfl, ⟨rfl, ⟨rfl, ⟨rfl, ⟨rfl, ⟨rfl, ⟨rfl, ⟨rfl, ⟨rfl, trivial⟩⟩⟩⟩⟩⟩⟩⟩⟩⟩⟩⟩⟩⟩⟩ ⟨rfl, ⟨rfl, ⟨rfl, ⟨rfl, ⟨rfl, ⟨rfl, ⟨rfl, ⟨rfl, ⟨rfl, ⟨rfl, ⟨rfl, ⟨rfl, ⟨rfl, ⟨rfl, ⟨rfl, trivial⟩⟩⟩⟩⟩⟩⟩⟩⟩⟩⟩⟩⟩⟩⟩ (ih216 ((y57_14 + r61)) s59 ((y57_17 / 3)) ((y57_18 + 1)) h)
                      rw [jn] at h
                      try dsimp only at h
                      have jp243 : ∀ (_ : Unit), (((fun j244 => j244 0) (fun (s59 : Int32) => ck (ix y57_18 8) (b1 (f_Mo_one N ((irm y57_17 3)) ((mX m18 16 y57_18.toNatClampNeg))) fun r61 => f_Mo_ends_L216 N x1 x3 x4 ((((((lsl x1 4)) ||| ((((4 * x4.toInt64)) + x3.toInt64)))) + 1)) z5_7 z18_8 z18_9 s19 y44_12 y44_13 m18 (fun (z53_14 : Int64) (z53_16 : Int32) (z53_17 : Int32) (z53_18 : Int32) => (if z53_16 = 0 then f_Mo_ends_L195 N x1 x3 x4 ((((((lsl x1 4)) ||| ((((4 * x4.toInt64)) + x3.toInt64)))) + 1)) z5_7 z18_8 z18_9 s19 m18 (fun (z40_12 : Int32) (z40_13 : Int32) => (if 131072 ≤ ((mI m18 0 33)) then some (z40_12, m18) else ck (ix z5_7 262144) (ck (ix z5_7 262144) (some (z40_12, (vI (vX (vY m18 14 z5_7.toNatClampNeg ((((((lsl x1 4)) ||| ((((4 * x4.toInt64)) + x3.toInt64)))) + 1))) 15 z5_7.toNatClampNeg z40_12) 0 33 ((((mI m18 0 33)) + 1)))))))) n195 y44_12 ((y44_13 + 1)) else b1 (f_Mo_backed N z53_14 x3 x4 m18) fun r55 => (if r55 ≤ y44_12 then f_Mo_ends_L195 N x1 x3 x4 ((((((lsl x1 4)) ||| ((((4 * x4.toInt64)) + x3.toInt64)))) + 1)) z5_7 z18_8 z18_9 s19 m18 (fun (z40_12 : Int32) (z40_13 : Int32) => (if 131072 ≤ ((mI m18 0 33)) then some (z40_12, m18) else ck (ix z5_7 262144) (ck (ix z5_7 262144) (some (z40_12, (vI (vX (vY m18 14 z5_7.toNatClampNeg ((((((lsl x1 4)) ||| ((((4 * x4.toInt64)) + x3.toInt64)))) + 1))) 15 z5_7.toNatClampNeg z40_12) 0 33 ((((mI m18 0 33)) + 1)))))))) n195 y44_12 ((y44_13 + 1)) else f_Mo_ends_L195 N x1 x3 x4 ((((((lsl x1 4)) ||| ((((4 * x4.toInt64)) + x3.toInt64)))) + 1)) z5_7 z18_8 z18_9 s19 m18 (fun (z40_12 : Int32) (z40_13 : Int32) => (if 131072 ≤ ((mI m18 0 33)) then some (z40_12, m18) else ck (ix z5_7 262144) (ck (ix z5_7 262144) (some (z40_12, (vI (vX (vY m18 14 z5_7.toNatClampNeg ((((((lsl x1 4)) ||| ((((4 * x4.toInt64)) + x3.toInt64)))) + 1))) 15 z5_7.toNatClampNeg z40_12) 0 33 ((((mI m18 0 33)) + 1)))))))) n195 r55 ((y44_13 + 1))))) n216 ((y57_14 + r61)) s59 ((y57_17 / 3)) ((y57_18 + 1)))))) = some (r0, mf) → RN xs L al (Ev xs L al d) 185 243 [(0, .ref 0), (1, .long x1), (3, .int x3), (4, .int x4), (5, .long ((((((lsl x1 4)) ||| ((((4 * x4.toInt64)) + x3.toInt64)))) + 1))), (7, .int z5_7), (8, .int z18_8), (9, .long z18_9), (11, .int s19), (12, .int y44_12), (13, .int y44_13), (14, .long y57_14), (17, .int y57_17), (18, .int y57_18)] [] (m18, S) (some (.int r0)) (mf, S) := by
                        intro _ h
                        try dsimp only at h
                        refine rsn 1 (t := (244, [(0, .ref 0), (1, .long x1), (3, .int x3), (4, .int x4), (5, .long ((((((lsl x1 4)) ||| ((((4 * x4.toInt64)) + x3.toInt64)))) + 1))), (7, .int z5_7), (8, .int z18_8), (9, .long z18_9), (11, .int s19), (12, .int y44_12), (13, .int y44_13), (14, .long y57_14), (17, .int y57_17), (18, .int y57_18)], [.int 0])) rfl ?_
                        exact rsub [(0, .ref 0), (1, .long x1), (3, .int x3), (4, .int x4), (5, .long ((((((lsl x1 4)) ||| ((((4 * x4.toInt64)) + x3.toInt64)))) + 1))), (7, .int z5_7), (8, .int z18_8), (9, .long z18_9), (11, .int s19), (12, .int y44_12), (13, .int y44_13), (14, .long y57_14), (17, .int y57_17), (18, .int y57_18)] ⟨rfl, ⟨rfl, ⟨rfl, ⟨rfl, ⟨rfl, ⟨rfl, ⟨rfl, ⟨rfl, ⟨rfl, ⟨rfl, ⟨rfl, ⟨rfl, ⟨rfl, ⟨rfl, trivial⟩⟩⟩⟩⟩⟩⟩⟩⟩⟩⟩⟩⟩⟩ ⟨rfl, ⟨rfl, ⟨rfl, ⟨rfl, ⟨rfl, ⟨rfl, ⟨rfl, ⟨rfl, ⟨rfl, ⟨rfl, ⟨rfl, ⟨rfl, ⟨rfl, ⟨rfl, trivial⟩⟩⟩⟩⟩⟩⟩⟩⟩⟩⟩⟩⟩⟩ (jp244 0 h)
                      rw [jn] at h
                      try dsimp only at h
                      by_cases c62 : y57_16 = 0
                      · rw [if_pos c62] at h
                        refine rjt (a := (243, [(0, .ref 0), (1, .long x1), (3, .int x3), (4, .int x4), (5, .long ((((((lsl x1 4)) ||| ((((4 * x4.toInt64)) + x3.toInt64)))) + 1))), (7, .int z5_7), (8, .int z18_8), (9, .long z18_9), (11, .int s19), (12, .int y44_12), (13, .int y44_13), (14, .long y57_14), (16, .int y57_16), (17, .int y57_17), (18, .int y57_18)], [])) (b := (228, [(0, .ref 0), (1, .long x1), (3, .int x3), (4, .int x4), (5, .long ((((((lsl x1 4)) ||| ((((4 * x4.toInt64)) + x3.toInt64)))) + 1))), (7, .int z5_7), (8, .int z18_8), (9, .long z18_9), (11, .int s19), (12, .int y44_12), (13, .int y44_13), (14, .long y57_14), (16, .int y57_16), (17, .int y57_17), (18, .int y57_18)], [])) rfl rfl c62 ?_
                        exact rsub [(0, .ref 0), (1, .long x1), (3, .int x3), (4, .int x4), (5, .long ((((((lsl x1 4)) ||| ((((4 * x4.toInt64)) + x3.toInt64)))) + 1))), (7, .int z5_7), (8, .int z18_8), (9, .long z18_9), (11, .int s19), (12, .int y44_12), (13, .int y44_13), (14, .long y57_14), (17, .int y57_17), (18, .int y57_18)] ⟨rfl, ⟨rfl, ⟨rfl, ⟨rfl, ⟨rfl, ⟨rfl, ⟨rfl, ⟨rfl, ⟨rfl, ⟨rfl, ⟨rfl, ⟨rfl, ⟨rfl, ⟨rfl, trivial⟩⟩⟩⟩⟩⟩⟩⟩⟩⟩⟩⟩⟩⟩ ⟨rfl, ⟨rfl, ⟨rfl, ⟨rfl, ⟨rfl, ⟨rfl, ⟨rfl, ⟨rfl, ⟨rfl, ⟨rfl, ⟨rfl, ⟨rfl, ⟨rfl, ⟨rfl, trivial⟩⟩⟩⟩⟩⟩⟩⟩⟩⟩⟩⟩⟩⟩ (jp243 () h)
                      · rw [if_neg c62] at h
                        refine rjf (a := (243, [(0, .ref 0), (1, .long x1), (3, .int x3), (4, .int x4), (5, .long ((((((lsl x1 4)) ||| ((((4 * x4.toInt64)) + x3.toInt64)))) + 1))), (7, .int z5_7), (8, .int z18_8), (9, .long z18_9), (11, .int s19), (12, .int y44_12), (13, .int y44_13), (14, .long y57_14), (16, .int y57_16), (17, .int y57_17), (18, .int y57_18)], [])) (b := (228, [(0, .ref 0), (1, .long x1), (3, .int x3), (4, .int x4), (5, .long ((((((lsl x1 4)) ||| ((((4 * x4.toInt64)) + x3.toInt64)))) + 1))), (7, .int z5_7), (8, .int z18_8), (9, .long z18_9), (11, .int s19), (12, .int y44_12), (13, .int y44_13), (14, .long y57_14), (16, .int y57_16), (17, .int y57_17), (18, .int y57_18)], [])) rfl rfl c62 ?_
                        refine rsn 3 (t := (232, [(0, .ref 0), (1, .long x1), (3, .int x3), (4, .int x4), (5, .long ((((((lsl x1 4)) ||| ((((4 * x4.toInt64)) + x3.toInt64)))) + 1))), (7, .int z5_7), (8, .int z18_8), (9, .long z18_9), (11, .int s19), (12, .int y44_12), (13, .int y44_13), (14, .long y57_14), (16, .int y57_16), (17, .int y57_17), (18, .int y57_18)], [.int 3, .int y57_17, .long x1])) rfl ?_
                        refine rsn 1 (t := (233, [(0, .ref 0), (1, .long x1), (3, .int x3), (4, .int x4), (5, .long ((((((lsl x1 4)) ||| ((((4 * x4.toInt64)) + x3.toInt64)))) + 1))), (7, .int z5_7), (8, .int z18_8), (9, .long z18_9), (11, .int s19), (12, .int y44_12), (13, .int y44_13), (14, .long y57_14), (16, .int y57_16), (17, .int y57_17), (18, .int y57_18)], [.int ((irm y57_17 3)), .long x1])) rfl ?_
                        obtain ⟨r63, g63, h⟩ := b1_some h
                        refine rcS 173 [.long x1, .int ((irm y57_17 3))] rfl rfl rfl (Nat.le_of_ble_eq_true rfl) rfl (e_Mo_hasCome N (by omega) g63) ?_
                        show RN xs L al (Ev xs L al d) 185 236 [(0, .ref 0), (1, .long x1), (3, .int x3), (4, .int x4), (5, .long ((((((lsl x1 4)) ||| ((((4 * x4.toInt64)) + x3.toInt64)))) + 1))), (7, .int z5_7), (8, .int z18_8), (9, .long z18_9), (11, .int s19), (12, .int y44_12), (13, .int y44_13), (14, .long y57_14), (16, .int y57_16), (17, .int y57_17), (18, .int y57_18)] [.int r63] (m18, S) (some (.int r0)) (mf, S)
                        by_cases c64 : r63 = 0
                        · rw [if_pos c64] at h
                          refine rjt (a := (243, [(0, .ref 0), (1, .long x1), (3, .int x3), (4, .int x4), (5, .long ((((((lsl x1 4)) ||| ((((4 * x4.toInt64)) + x3.toInt64)))) + 1))), (7, .int z5_7), (8, .int z18_8), (9, .long z18_9), (11, .int s19), (12, .int y44_12), (13, .int y44_13), (14, .long y57_14), (16, .int y57_16), (17, .int y57_17), (18, .int y57_18)], [])) (b := (239, [(0, .ref 0), (1, .long x1), (3, .int x3), (4, .int x4), (5, .long ((((((lsl x1 4)) ||| ((((4 * x4.toInt64)) + x3.toInt64)))) + 1))), (7, .int z5_7), (8, .int z18_8), (9, .long z18_9), (11, .int s19), (12, .int y44_12), (13, .int y44_13), (14, .long y57_14), (16, .int y57_16), (17, .int y57_17), (18, .int y57_18)], [])) rfl rfl c64 ?_
                          exact rsub [(0, .ref 0), (1, .long x1), (3, .int x3), (4, .int x4), (5, .long ((((((lsl x1 4)) ||| ((((4 * x4.toInt64)) + x3.toInt64)))) + 1))), (7, .int z5_7), (8, .int z18_8), (9, .long z18_9), (11, .int s19), (12, .int y44_12), (13, .int y44_13), (14, .long y57_14), (17, .int y57_17), (18, .int y57_18)] ⟨rfl, ⟨rfl, ⟨rfl, ⟨rfl, ⟨rfl, ⟨rfl, ⟨rfl, ⟨rfl, ⟨rfl, ⟨rfl, ⟨rfl, ⟨rfl, ⟨rfl, ⟨rfl, trivial⟩⟩⟩⟩⟩⟩⟩⟩⟩⟩⟩⟩⟩⟩ ⟨rfl, ⟨rfl, ⟨rfl, ⟨rfl, ⟨rfl, ⟨rfl, ⟨rfl, ⟨rfl, ⟨rfl, ⟨rfl, ⟨rfl, ⟨rfl, ⟨rfl, ⟨rfl, trivial⟩⟩⟩⟩⟩⟩⟩⟩⟩⟩⟩⟩⟩⟩ (jp243 () h)
                        · rw [if_neg c64] at h
                          refine rjf (a := (243, [(0, .ref 0), (1, .long x1), (3, .int x3), (4, .int x4), (5, .long ((((((lsl x1 4)) ||| ((((4 * x4.toInt64)) + x3.toInt64)))) + 1))), (7, .int z5_7), (8, .int z18_8), (9, .long z18_9), (11, .int s19), (12, .int y44_12), (13, .int y44_13), (14, .long y57_14), (16, .int y57_16), (17, .int y57_17), (18, .int y57_18)], [])) (b := (239, [(0, .ref 0), (1, .long x1), (3, .int x3), (4, .int x4), (5, .long ((((((lsl x1 4)) ||| ((((4 * x4.toInt64)) + x3.toInt64)))) + 1))), (7, .int z5_7), (8, .int z18_8), (9, .long z18_9), (11, .int s19), (12, .int y44_12), (13, .int y44_13), (14, .long y57_14), (16, .int y57_16), (17, .int y57_17), (18, .int y57_18)], [])) rfl rfl c64 ?_
                          refine rsn 2 (t := (244, [(0, .ref 0), (1, .long x1), (3, .int x3), (4, .int x4), (5, .long ((((((lsl x1 4)) ||| ((((4 * x4.toInt64)) + x3.toInt64)))) + 1))), (7, .int z5_7), (8, .int z18_8), (9, .long z18_9), (11, .int s19), (12, .int y44_12), (13, .int y44_13), (14, .long y57_14), (16, .int y57_16), (17, .int y57_17), (18, .int y57_18)], [.int 1])) rfl ?_
                          exact rsub [(0, .ref 0), (1, .long x1), (3, .int x3), (4, .int x4), (5, .long ((((((lsl x1 4)) ||| ((((4 * x4.toInt64)) + x3.toInt64)))) + 1))), (7, .int z5_7), (8, .int z18_8), (9, .long z18_9), (11, .int s19), (12, .int y44_12), (13, .int y44_13), (14, .long y57_14), (17, .int y57_17), (18, .int y57_18)] ⟨rfl, ⟨rfl, ⟨rfl, ⟨rfl, ⟨rfl, ⟨rfl, ⟨rfl, ⟨rfl, ⟨rfl, ⟨rfl, ⟨rfl, ⟨rfl, ⟨rfl, ⟨rfl, trivial⟩⟩⟩⟩⟩⟩⟩⟩⟩⟩⟩⟩⟩⟩ ⟨rfl, ⟨rfl, ⟨rfl, ⟨rfl, ⟨rfl, ⟨rfl, ⟨rfl, ⟨rfl, ⟨rfl, ⟨rfl, ⟨rfl, ⟨rfl, ⟨rfl, ⟨rfl, trivial⟩⟩⟩⟩⟩⟩⟩⟩⟩⟩⟩⟩⟩⟩ (jp244 1 h)
                exact rsub [(0, .ref 0), (1, .long x1), (3, .int x3), (4, .int x4), (5, .long ((((((lsl x1 4)) ||| ((((4 * x4.toInt64)) + x3.toInt64)))) + 1))), (7, .int z5_7), (8, .int z18_8), (9, .long z18_9), (11, .int s19), (12, .int y44_12), (13, .int y44_13), (14, .long z18_9), (16, .int 1), (17, .int y44_13), (18, .int 0)] ⟨rfl, ⟨rfl, ⟨rfl, ⟨rfl, ⟨rfl, ⟨rfl, ⟨rfl, ⟨rfl, ⟨rfl, ⟨rfl, ⟨rfl, ⟨rfl, ⟨rfl, ⟨rfl, ⟨rfl, trivial⟩⟩⟩⟩⟩⟩⟩⟩⟩⟩⟩⟩⟩⟩⟩ ⟨rfl, ⟨rfl, ⟨rfl, ⟨rfl, ⟨rfl, ⟨rfl, ⟨rfl, ⟨rfl, ⟨rfl, ⟨rfl, ⟨rfl, ⟨rfl, ⟨rfl, ⟨rfl, ⟨rfl, trivial⟩⟩⟩⟩⟩⟩⟩⟩⟩⟩⟩⟩⟩⟩⟩ (lp216 N z18_9 1 y44_13 0 h)
          exact rsub [(0, .ref 0), (1, .long x1), (3, .int x3), (4, .int x4), (5, .long ((((((lsl x1 4)) ||| ((((4 * x4.toInt64)) + x3.toInt64)))) + 1))), (7, .int z5_7), (8, .int z18_8), (9, .long z18_9), (11, .int s19), (12, .int ((-2147483648))), (13, .int 0)] ⟨rfl, ⟨rfl, ⟨rfl, ⟨rfl, ⟨rfl, ⟨rfl, ⟨rfl, ⟨rfl, ⟨rfl, ⟨rfl, ⟨rfl, trivial⟩⟩⟩⟩⟩⟩⟩⟩⟩⟩⟩ ⟨rfl, ⟨rfl, ⟨rfl, ⟨rfl, ⟨rfl, ⟨rfl, ⟨rfl, ⟨rfl, ⟨rfl, ⟨rfl, ⟨rfl, trivial⟩⟩⟩⟩⟩⟩⟩⟩⟩⟩⟩ (lp195 N ((-2147483648)) 0 h)
        rw [jn] at h
        try dsimp only at h
        by_cases c65 : z18_8 = 0
        · rw [if_pos c65] at h
          refine rjf (a := (162, [(0, .ref 0), (1, .long x1), (3, .int x3), (4, .int x4), (5, .long ((((((lsl x1 4)) ||| ((((4 * x4.toInt64)) + x3.toInt64)))) + 1))), (7, .int z5_7), (8, .int z18_8), (9, .long z18_9)], [])) (b := (158, [(0, .ref 0), (1, .long x1), (3, .int x3), (4, .int x4), (5, .long ((((((lsl x1 4)) ||| ((((4 * x4.toInt64)) + x3.toInt64)))) + 1))), (7, .int z5_7), (8, .int z18_8), (9, .long z18_9)], [])) rfl rfl (fun q => q c65) ?_
          refine rsn 2 (t := (185, [(0, .ref 0), (1, .long x1), (3, .int x3), (4, .int x4), (5, .long ((((((lsl x1 4)) ||| ((((4 * x4.toInt64)) + x3.toInt64)))) + 1))), (7, .int z5_7), (8, .int z18_8), (9, .long z18_9)], [.int 1])) rfl ?_
          exact rsub [(0, .ref 0), (1, .long x1), (3, .int x3), (4, .int x4), (5, .long ((((((lsl x1 4)) ||| ((((4 * x4.toInt64)) + x3.toInt64)))) + 1))), (7, .int z5_7), (8, .int z18_8), (9, .long z18_9)] ⟨rfl, ⟨rfl, ⟨rfl, ⟨rfl, ⟨rfl, ⟨rfl, ⟨rfl, ⟨rfl, trivial⟩⟩⟩⟩⟩⟩⟩⟩ ⟨rfl, ⟨rfl, ⟨rfl, ⟨rfl, ⟨rfl, ⟨rfl, ⟨rfl, ⟨rfl, trivial⟩⟩⟩⟩⟩⟩⟩⟩ (jp185 1 h)
        · rw [if_neg c65] at h
          refine rjt (a := (162, [(0, .ref 0), (1, .long x1), (3, .int x3), (4, .int x4), (5, .long ((((((lsl x1 4)) ||| ((((4 * x4.toInt64)) + x3.toInt64)))) + 1))), (7, .int z5_7), (8, .int z18_8), (9, .long z18_9)], [])) (b := (158, [(0, .ref 0), (1, .long x1), (3, .int x3), (4, .int x4), (5, .long ((((((lsl x1 4)) ||| ((((4 * x4.toInt64)) + x3.toInt64)))) + 1))), (7, .int z5_7), (8, .int z18_8), (9, .long z18_9)], [])) rfl rfl c65 ?_
          refine rsn 2 (t := (165, [(0, .ref 0), (1, .long x1), (3, .int x3), (4, .int x4), (5, .long ((((((lsl x1 4)) ||| ((((4 * x4.toInt64)) + x3.toInt64)))) + 1))), (7, .int z5_7), (8, .int z18_8), (9, .long z18_9)], [.int 1, .int z18_8])) rfl ?_
          by_cases c66 : z18_8 = 1
          · rw [if_pos c66] at h
            refine rjf (a := (172, [(0, .ref 0), (1, .long x1), (3, .int x3), (4, .int x4), (5, .long ((((((lsl x1 4)) ||| ((((4 * x4.toInt64)) + x3.toInt64)))) + 1))), (7, .int z5_7), (8, .int z18_8), (9, .long z18_9)], [])) (b := (168, [(0, .ref 0), (1, .long x1), (3, .int x3), (4, .int x4), (5, .long ((((((lsl x1 4)) ||| ((((4 * x4.toInt64)) + x3.toInt64)))) + 1))), (7, .int z5_7), (8, .int z18_8), (9, .long z18_9)], [])) rfl rfl (fun q => q c66) ?_
            refine rsn 2 (t := (185, [(0, .ref 0), (1, .long x1), (3, .int x3), (4, .int x4), (5, .long ((((((lsl x1 4)) ||| ((((4 * x4.toInt64)) + x3.toInt64)))) + 1))), (7, .int z5_7), (8, .int z18_8), (9, .long z18_9)], [.int 3])) rfl ?_
            exact rsub [(0, .ref 0), (1, .long x1), (3, .int x3), (4, .int x4), (5, .long ((((((lsl x1 4)) ||| ((((4 * x4.toInt64)) + x3.toInt64)))) + 1))), (7, .int z5_7), (8, .int z18_8), (9, .long z18_9)] ⟨rfl, ⟨rfl, ⟨rfl, ⟨rfl, ⟨rfl, ⟨rfl, ⟨rfl, ⟨rfl, trivial⟩⟩⟩⟩⟩⟩⟩⟩ ⟨rfl, ⟨rfl, ⟨rfl, ⟨rfl, ⟨rfl, ⟨rfl, ⟨rfl, ⟨rfl, trivial⟩⟩⟩⟩⟩⟩⟩⟩ (jp185 3 h)
          · rw [if_neg c66] at h
            refine rjt (a := (172, [(0, .ref 0), (1, .long x1), (3, .int x3), (4, .int x4), (5, .long ((((((lsl x1 4)) ||| ((((4 * x4.toInt64)) + x3.toInt64)))) + 1))), (7, .int z5_7), (8, .int z18_8), (9, .long z18_9)], [])) (b := (168, [(0, .ref 0), (1, .long x1), (3, .int x3), (4, .int x4), (5, .long ((((((lsl x1 4)) ||| ((((4 * x4.toInt64)) + x3.toInt64)))) + 1))), (7, .int z5_7), (8, .int z18_8), (9, .long z18_9)], [])) rfl rfl c66 ?_
            refine rsn 2 (t := (175, [(0, .ref 0), (1, .long x1), (3, .int x3), (4, .int x4), (5, .long ((((((lsl x1 4)) ||| ((((4 * x4.toInt64)) + x3.toInt64)))) + 1))), (7, .int z5_7), (8, .int z18_8), (9, .long z18_9)], [.int 2, .int z18_8])) rfl ?_
            by_cases c67 : z18_8 = 2
            · rw [if_pos c67] at h
              refine rjf (a := (183, [(0, .ref 0), (1, .long x1), (3, .int x3), (4, .int x4), (5, .long ((((((lsl x1 4)) ||| ((((4 * x4.toInt64)) + x3.toInt64)))) + 1))), (7, .int z5_7), (8, .int z18_8), (9, .long z18_9)], [])) (b := (178, [(0, .ref 0), (1, .long x1), (3, .int x3), (4, .int x4), (5, .long ((((((lsl x1 4)) ||| ((((4 * x4.toInt64)) + x3.toInt64)))) + 1))), (7, .int z5_7), (8, .int z18_8), (9, .long z18_9)], [])) rfl rfl (fun q => q c67) ?_
              refine rsn 2 (t := (185, [(0, .ref 0), (1, .long x1), (3, .int x3), (4, .int x4), (5, .long ((((((lsl x1 4)) ||| ((((4 * x4.toInt64)) + x3.toInt64)))) + 1))), (7, .int z5_7), (8, .int z18_8), (9, .long z18_9)], [.int 9])) rfl ?_
              exact rsub [(0, .ref 0), (1, .long x1), (3, .int x3), (4, .int x4), (5, .long ((((((lsl x1 4)) ||| ((((4 * x4.toInt64)) + x3.toInt64)))) + 1))), (7, .int z5_7), (8, .int z18_8), (9, .long z18_9)] ⟨rfl, ⟨rfl, ⟨rfl, ⟨rfl, ⟨rfl, ⟨rfl, ⟨rfl, ⟨rfl, trivial⟩⟩⟩⟩⟩⟩⟩⟩ ⟨rfl, ⟨rfl, ⟨rfl, ⟨rfl, ⟨rfl, ⟨rfl, ⟨rfl, ⟨rfl, trivial⟩⟩⟩⟩⟩⟩⟩⟩ (jp185 9 h)
            · rw [if_neg c67] at h
              refine rjt (a := (183, [(0, .ref 0), (1, .long x1), (3, .int x3), (4, .int x4), (5, .long ((((((lsl x1 4)) ||| ((((4 * x4.toInt64)) + x3.toInt64)))) + 1))), (7, .int z5_7), (8, .int z18_8), (9, .long z18_9)], [])) (b := (178, [(0, .ref 0), (1, .long x1), (3, .int x3), (4, .int x4), (5, .long ((((((lsl x1 4)) ||| ((((4 * x4.toInt64)) + x3.toInt64)))) + 1))), (7, .int z5_7), (8, .int z18_8), (9, .long z18_9)], [])) rfl rfl c67 ?_
              refine rsn 1 (t := (185, [(0, .ref 0), (1, .long x1), (3, .int x3), (4, .int x4), (5, .long ((((((lsl x1 4)) ||| ((((4 * x4.toInt64)) + x3.toInt64)))) + 1))), (7, .int z5_7), (8, .int z18_8), (9, .long z18_9)], [.int 27])) rfl ?_
              exact rsub [(0, .ref 0), (1, .long x1), (3, .int x3), (4, .int x4), (5, .long ((((((lsl x1 4)) ||| ((((4 * x4.toInt64)) + x3.toInt64)))) + 1))), (7, .int z5_7), (8, .int z18_8), (9, .long z18_9)] ⟨rfl, ⟨rfl, ⟨rfl, ⟨rfl, ⟨rfl, ⟨rfl, ⟨rfl, ⟨rfl, trivial⟩⟩⟩⟩⟩⟩⟩⟩ ⟨rfl, ⟨rfl, ⟨rfl, ⟨rfl, ⟨rfl, ⟨rfl, ⟨rfl, ⟨rfl, trivial⟩⟩⟩⟩⟩⟩⟩⟩ (jp185 27 h)
      have lp98 : ∀ (n : Nat) (y68_8 : Int32) (y68_9 : Int64) (y68_11 : Int32) (m68 : Mm), (f_Mo_ends_L98 N x1 x3 x4 ((((((lsl x1 4)) ||| ((((4 * x4.toInt64)) + x3.toInt64)))) + 1)) z5_7 (fun (z18_8 : Int32) (z18_9 : Int64) (z18_11 : Int32) (m18 : Mm) => (jn (fun (s19 : Int32) => f_Mo_ends_L195 N x1 x3 x4 ((((((lsl x1 4)) ||| ((((4 * x4.toInt64)) + x3.toInt64)))) + 1)) z5_7 z18_8 z18_9 s19 m18 (fun (z40_12 : Int32) (z40_13 : Int32) => (if 131072 ≤ ((mI m18 0 33)) then some (z40_12, m18) else ck (ix z5_7 262144) (ck (ix z5_7 262144) (some (z40_12, (vI (vX (vY m18 14 z5_7.toNatClampNeg ((((((lsl x1 4)) ||| ((((4 * x4.toInt64)) + x3.toInt64)))) + 1))) 15 z5_7.toNatClampNeg z40_12) 0 33 ((((mI m18 0 33)) + 1)))))))) N ((-2147483648)) 0) (fun j185 => if z18_8 = 0 then j185 1 else (if z18_8 = 1 then j185 3 else (if z18_8 = 2 then j185 9 else j185 27))))) n y68_8 y68_9 y68_11 m68) = some (r0, mf) → RN xs L al (Ev xs L al d) 185 98 [(0, .ref 0), (1, .long x1), (3, .int x3), (4, .int x4), (5, .long ((((((lsl x1 4)) ||| ((((4 * x4.toInt64)) + x3.toInt64)))) + 1))), (7, .int z5_7), (8, .int y68_8), (9, .long y68_9), (11, .int y68_11)] [] (m68, S) (some (.int r0)) (mf, S) := by
        intro n
        induction n with
        | zero => intro y68_8 y68_9 y68_11 m68 h; exact absurd h (by simp [f_Mo_ends_L98])
        | succ n98 ih98 =>
          intro y68_8 y68_9 y68_11 m68 h
          try dsimp only at h
          rw [f_Mo_ends_L98] at h
          try dsimp only at h
          refine rsn 2 (t := (101, [(0, .ref 0), (1, .long x1), (3, .int x3), (4, .int x4), (5, .long ((((((lsl x1 4)) ||| ((((4 * x4.toInt64)) + x3.toInt64)))) + 1))), (7, .int z5_7), (8, .int y68_8), (9, .long y68_9), (11, .int y68_11)], [.int 3, .int y68_11])) rfl ?_
          by_cases c69 : 3 ≤ y68_11
          · rw [if_pos c69] at h
            refine rjt (a := (153, [(0, .ref 0), (1, .long x1), (3, .int x3), (4, .int x4), (5, .long ((((((lsl x1 4)) ||| ((((4 * x4.toInt64)) + x3.toInt64)))) + 1))), (7, .int z5_7), (8, .int y68_8), (9, .long y68_9), (11, .int y68_11)], [])) (b := (104, [(0, .ref 0), (1, .long x1), (3, .int x3), (4, .int x4), (5, .long ((((((lsl x1 4)) ||| ((((4 * x4.toInt64)) + x3.toInt64)))) + 1))), (7, .int z5_7), (8, .int y68_8), (9, .long y68_9), (11, .int y68_11)], [])) rfl rfl c69 ?_
            exact rsub [(0, .ref 0), (1, .long x1), (3, .int x3), (4, .int x4), (5, .long ((((((lsl x1 4)) ||| ((((4 * x4.toInt64)) + x3.toInt64)))) + 1))), (7, .int z5_7), (8, .int y68_8), (9, .long y68_9)] ⟨rfl, ⟨rfl, ⟨rfl, ⟨rfl, ⟨rfl, ⟨rfl, ⟨rfl, ⟨rfl, trivial⟩⟩⟩⟩⟩⟩⟩⟩ ⟨rfl, ⟨rfl, ⟨rfl, ⟨rfl, ⟨rfl, ⟨rfl, ⟨rfl, ⟨rfl, trivial⟩⟩⟩⟩⟩⟩⟩⟩ (ex98 y68_8 y68_9 y68_11 m68 h)
          · rw [if_neg c69] at h
            refine rjf (a := (153, [(0, .ref 0), (1, .long x1), (3, .int x3), (4, .int x4), (5, .long ((((((lsl x1 4)) ||| ((((4 * x4.toInt64)) + x3.toInt64)))) + 1))), (7, .int z5_7), (8, .int y68_8), (9, .long y68_9), (11, .int y68_11)], [])) (b := (104, [(0, .ref 0), (1, .long x1), (3, .int x3), (4, .int x4), (5, .long ((((((lsl x1 4)) ||| ((((4 * x4.toInt64)) + x3.toInt64)))) + 1))), (7, .int z5_7), (8, .int y68_8), (9, .long y68_9), (11, .int y68_11)], [])) rfl rfl c69 ?_
            refine rsn 3 (t := (108, [(0, .ref 0), (1, .long x1), (3, .int x3), (4, .int x4), (5, .long ((((((lsl x1 4)) ||| ((((4 * x4.toInt64)) + x3.toInt64)))) + 1))), (7, .int z5_7), (8, .int y68_8), (9, .long y68_9), (11, .int y68_11)], [.int y68_11, .int 3, .long x1])) rfl ?_
            obtain ⟨r70, g70, h⟩ := b1_some h
            refine rcS 174 [.long x1, .int 3, .int y68_11] rfl rfl rfl (Nat.le_of_ble_eq_true rfl) rfl (e_Mo_things N (by omega) g70) ?_
            show RN xs L al (Ev xs L al d) 185 111 [(0, .ref 0), (1, .long x1), (3, .int x3), (4, .int x4), (5, .long ((((((lsl x1 4)) ||| ((((4 * x4.toInt64)) + x3.toInt64)))) + 1))), (7, .int z5_7), (8, .int y68_8), (9, .long y68_9), (11, .int y68_11)] [.int r70] (m68, S) (some (.int r0)) (mf, S)
            refine rsn 1 (t := (113, [(12, .int r70), (0, .ref 0), (1, .long x1), (3, .int x3), (4, .int x4), (5, .long ((((((lsl x1 4)) ||| ((((4 * x4.toInt64)) + x3.toInt64)))) + 1))), (7, .int z5_7), (8, .int y68_8), (9, .long y68_9), (11, .int y68_11)], [])) rfl ?_
            have ex113 : ∀ (z74_8 : Int32) (z74_9 : Int64) (z74_12 : Int32) (m74 : Mm), (f_Mo_ends_L98 N x1 x3 x4 ((((((lsl x1 4)) ||| ((((4 * x4.toInt64)) + x3.toInt64)))) + 1)) z5_7 (fun (z18_8 : Int32) (z18_9 : Int64) (z18_11 : Int32) (m18 : Mm) => (jn (fun (s19 : Int32) => f_Mo_ends_L195 N x1 x3 x4 ((((((lsl x1 4)) ||| ((((4 * x4.toInt64)) + x3.toInt64)))) + 1)) z5_7 z18_8 z18_9 s19 m18 (fun (z40_12 : Int32) (z40_13 : Int32) => (if 131072 ≤ ((mI m18 0 33)) then some (z40_12, m18) else ck (ix z5_7 262144) (ck (ix z5_7 262144) (some (z40_12, (vI (vX (vY m18 14 z5_7.toNatClampNeg ((((((lsl x1 4)) ||| ((((4 * x4.toInt64)) + x3.toInt64)))) + 1))) 15 z5_7.toNatClampNeg z40_12) 0 33 ((((mI m18 0 33)) + 1)))))))) N ((-2147483648)) 0) (fun j185 => if z18_8 = 0 then j185 1 else (if z18_8 = 1 then j185 3 else (if z18_8 = 2 then j185 9 else j185 27))))) n98 z74_8 z74_9 ((y68_11 + 1)) m74) = some (r0, mf) → RN xs L al (Ev xs L al d) 185 147 [(0, .ref 0), (1, .long x1), (3, .int x3), (4, .int x4), (5, .long ((((((lsl x1 4)) ||| ((((4 * x4.toInt64)) + x3.toInt64)))) + 1))), (7, .int z5_7), (8, .int z74_8), (9, .long z74_9), (11, .int y68_11)] [] (m74, S) (some (.int r0)) (mf, S) := by
              intro z74_8 z74_9 z74_12 m74 h
              try dsimp only at h
              refine rsn 2 (t := (98, [(11, .int ((y68_11 + 1))), (0, .ref 0), (1, .long x1), (3, .int x3), (4, .int x4), (5, .long ((((((lsl x1 4)) ||| ((((4 * x4.toInt64)) + x3.toInt64)))) + 1))), (7, .int z5_7), (8, .int z74_8), (9, .long z74_9)], [])) rfl ?_
              exact rsub [(0, .ref 0), (1, .long x1), (3, .int x3), (4, .int x4), (5, .long ((((((lsl x1 4)) ||| ((((4 * x4.toInt64)) + x3.toInt64)))) + 1))), (7, .int z5_7), (8, .int z74_8), (9, .long z74_9), (11, .int ((y68_11 + 1)))] ⟨rfl, ⟨rfl, ⟨rfl, ⟨rfl, ⟨rfl, ⟨rfl, ⟨rfl, ⟨rfl, ⟨rfl, trivial⟩⟩⟩⟩⟩⟩⟩⟩⟩ ⟨rfl, ⟨rfl, ⟨rfl, ⟨rfl, ⟨rfl, ⟨rfl, ⟨rfl, ⟨rfl, ⟨rfl, trivial⟩⟩⟩⟩⟩⟩⟩⟩⟩ (ih98 z74_8 z74_9 ((y68_11 + 1)) m74 h)
            have lp113 : ∀ (n : Nat) (y75_8 : Int32) (y75_9 : Int64) (y75_12 : Int32) (m75 : Mm), (f_Mo_ends_L113 N x1 x3 x4 ((((((lsl x1 4)) ||| ((((4 * x4.toInt64)) + x3.toInt64)))) + 1)) z5_7 y68_11 (fun (z74_8 : Int32) (z74_9 : Int64) (z74_12 : Int32) (m74 : Mm) => f_Mo_ends_L98 N x1 x3 x4 ((((((lsl x1 4)) ||| ((((4 * x4.toInt64)) + x3.toInt64)))) + 1)) z5_7 (fun (z18_8 : Int32) (z18_9 : Int64) (z18_11 : Int32) (m18 : Mm) => (jn (fun (s19 : Int32) => f_Mo_ends_L195 N x1 x3 x4 ((((((lsl x1 4)) ||| ((((4 * x4.toInt64)) + x3.toInt64)))) + 1)) z5_7 z18_8 z18_9 s19 m18 (fun (z40_12 : Int32) (z40_13 : Int32) => (if 131072 ≤ ((mI m18 0 33)) then some (z40_12, m18) else ck (ix z5_7 262144) (ck (ix z5_7 262144) (some (z40_12, (vI (vX (vY m18 14 z5_7.toNatClampNeg ((((((lsl x1 4)) ||| ((((4 * x4.toInt64)) + x3.toInt64)))) + 1))) 15 z5_7.toNatClampNeg z40_12) 0 33 ((((mI m18 0 33)) + 1)))))))) N ((-2147483648)) 0) (fun j185 => if z18_8 = 0 then j185 1 else (if z18_8 = 1 then j185 3 else (if z18_8 = 2 then j185 9 else j185 27))))) n98 z74_8 z74_9 ((y68_11 + 1)) m74) n y75_8 y75_9 y75_12 m75) = some (r0, mf) → RN xs L al (Ev xs L al d) 185 113 [(0, .ref 0), (1, .long x1), (3, .int x3), (4, .int x4), (5, .long ((((((lsl x1 4)) ||| ((((4 * x4.toInt64)) + x3.toInt64)))) + 1))), (7, .int z5_7), (8, .int y75_8), (9, .long y75_9), (11, .int y68_11), (12, .int y75_12)] [] (m75, S) (some (.int r0)) (mf, S) := by
              intro n
              induction n with
              | zero => intro y75_8 y75_9 y75_12 m75 h; exact absurd h (by simp [f_Mo_ends_L113])
              | succ n113 ih113 =>
                intro y75_8 y75_9 y75_12 m75 h
                try dsimp only at h
                rw [f_Mo_ends_L113] at h
                try dsimp only at h
                refine rsn 1 (t := (115, [(0, .ref 0), (1, .long x1), (3, .int x3), (4, .int x4), (5, .long ((((((lsl x1 4)) ||| ((((4 * x4.toInt64)) + x3.toInt64)))) + 1))), (7, .int z5_7), (8, .int y75_8), (9, .long y75_9), (11, .int y68_11), (12, .int y75_12)], [.int y75_12])) rfl ?_
                by_cases c76 : y75_12 ≤ 0
                · rw [if_pos c76] at h
                  refine rjt (a := (147, [(0, .ref 0), (1, .long x1), (3, .int x3), (4, .int x4), (5, .long ((((((lsl x1 4)) ||| ((((4 * x4.toInt64)) + x3.toInt64)))) + 1))), (7, .int z5_7), (8, .int y75_8), (9, .long y75_9), (11, .int y68_11), (12, .int y75_12)], [])) (b := (118, [(0, .ref 0), (1, .long x1), (3, .int x3), (4, .int x4), (5, .long ((((((lsl x1 4)) ||| ((((4 * x4.toInt64)) + x3.toInt64)))) + 1))), (7, .int z5_7), (8, .int y75_8), (9, .long y75_9), (11, .int y68_11), (12, .int y75_12)], [])) rfl rfl c76 ?_
                  exact rsub [(0, .ref 0), (1, .long x1), (3, .int x3), (4, .int x4), (5, .long ((((((lsl x1 4)) ||| ((((4 * x4.toInt64)) + x3.toInt64)))) + 1))), (7, .int z5_7), (8, .int y75_8), (9, .long y75_9), (11, .int y68_11)] ⟨rfl, ⟨rfl, ⟨rfl, ⟨rfl, ⟨rfl, ⟨rfl, ⟨rfl, ⟨rfl, ⟨rfl, trivial⟩⟩⟩⟩⟩⟩⟩⟩⟩ ⟨rfl, ⟨rfl, ⟨rfl, ⟨rfl, ⟨rfl, ⟨rfl, ⟨rfl, ⟨rfl, ⟨rfl, trivial⟩⟩⟩⟩⟩⟩⟩⟩⟩ (ex113 y75_8 y75_9 y75_12 m75 h)
                · rw [if_neg c76] at h
                  refine rjf (a := (147, [(0, .ref 0), (1, .long x1), (3, .int x3), (4, .int x4), (5, .long ((((((lsl x1 4)) ||| ((((4 * x4.toInt64)) + x3.toInt64)))) + 1))), (7, .int z5_7), (8, .int y75_8), (9, .long y75_9), (11, .int y68_11), (12, .int y75_12)], [])) (b := (118, [(0, .ref 0), (1, .long x1), (3, .int x3), (4, .int x4), (5, .long ((((((lsl x1 4)) ||| ((((4 * x4.toInt64)) + x3.toInt64)))) + 1))), (7, .int z5_7), (8, .int y75_8), (9, .long y75_9), (11, .int y68_11), (12, .int y75_12)], [])) rfl rfl c76 ?_
                  refine rsn 1 (t := (119, [(0, .ref 0), (1, .long x1), (3, .int x3), (4, .int x4), (5, .long ((((((lsl x1 4)) ||| ((((4 * x4.toInt64)) + x3.toInt64)))) + 1))), (7, .int z5_7), (8, .int y75_8), (9, .long y75_9), (11, .int y68_11), (12, .int y75_12)], [.ref 0])) rfl ?_
                  refine rgR rfl rfl rfl (hSh.k 0 rfl _) (hSh.r 15 rfl _) ?_
                  refine rsn 2 (t := (126, [(0, .ref 0), (1, .long x1), (3, .int x3), (4, .int x4), (5, .long ((((((lsl x1 4)) ||| ((((4 * x4.toInt64)) + x3.toInt64)))) + 1))), (7, .int z5_7), (8, .int y75_8), (9, .long y75_9), (11, .int y68_11), (12, .int y75_12)], [.int y68_11, .int y75_8, .ref 16])) rfl ?_
                  obtain ⟨c77, h⟩ := ck_some h
                  refine psI rfl (hSh.k 16 rfl _) (hSh.l 15 rfl _) c77 ?_
                  refine rsn 4 (t := (135, [(8, .int ((y75_8 + 1))), (0, .ref 0), (1, .long x1), (3, .int x3), (4, .int x4), (5, .long ((((((lsl x1 4)) ||| ((((4 * x4.toInt64)) + x3.toInt64)))) + 1))), (7, .int z5_7), (9, .long y75_9), (11, .int y68_11), (12, .int y75_12)], [.int y68_11, .int 3, .long y75_9])) rfl ?_
                  obtain ⟨r78, g78, h⟩ := b1_some h
                  refine rcS 182 [.int 3, .int y68_11] rfl rfl rfl (Nat.le_of_ble_eq_true rfl) rfl (e_Mo_one N (by omega) g78) ?_
                  show RN xs L al (Ev xs L al d) 185 138 [(8, .int ((y75_8 + 1))), (0, .ref 0), (1, .long x1), (3, .int x3), (4, .int x4), (5, .long ((((((lsl x1 4)) ||| ((((4 * x4.toInt64)) + x3.toInt64)))) + 1))), (7, .int z5_7), (9, .long y75_9), (11, .int y68_11), (12, .int y75_12)] [.long r78, .long y75_9] ((vX m75 16 y75_8.toNatClampNeg y68_11), S) (some (.int r0)) (mf, S)
                  refine rsn 4 (t := (113, [(12, .int ((y75_12 + (-1)))), (9, .long ((y75_9 - r78))), (8, .int ((y75_8 + 1))), (0, .ref 0), (1, .long x1), (3, .int x3), (4, .int x4), (5, .long ((((((lsl x1 4)) ||| ((((4 * x4.toInt64)) + x3.toInt64)))) + 1))), (7, .int z5_7), (11, .int y68_11)], [])) rfl ?_
                  exact rsub [(0, .ref 0), (1, .long x1), (3, .int x3), (4, .int x4), (5, .long ((((((lsl x1 4)) ||| ((((4 * x4.toInt64)) + x3.toInt64)))) + 1))), (7, .int z5_7), (8, .int ((y75_8 + 1))), (9, .long ((y75_9 - r78))), (11, .int y68_11), (12, .int ((y75_12 + (-1))))] ⟨rfl, ⟨rfl, ⟨rfl, ⟨rfl, ⟨rfl, ⟨rfl, ⟨rfl, ⟨rfl, ⟨rfl, ⟨rfl, trivial⟩⟩⟩⟩⟩⟩⟩⟩⟩⟩ ⟨rfl, ⟨rfl, ⟨rfl, ⟨rfl, ⟨rfl, ⟨rfl, ⟨rfl, ⟨rfl, ⟨rfl, ⟨rfl, trivial⟩⟩⟩⟩⟩⟩⟩⟩⟩⟩ (ih113 ((y75_8 + 1)) ((y75_9 - r78)) ((y75_12 + (-1))) ((vX m75 16 y75_8.toNatClampNeg y68_11)) h)
            exact rsub [(0, .ref 0), (1, .long x1), (3, .int x3), (4, .int x4), (5, .long ((((((lsl x1 4)) ||| ((((4 * x4.toInt64)) + x3.toInt64)))) + 1))), (7, .int z5_7), (8, .int y68_8), (9, .long y68_9), (11, .int y68_11), (12, .int r70)] ⟨rfl, ⟨rfl, ⟨rfl, ⟨rfl, ⟨rfl, ⟨rfl, ⟨rfl, ⟨rfl, ⟨rfl, ⟨rfl, trivial⟩⟩⟩⟩⟩⟩⟩⟩⟩⟩ ⟨rfl, ⟨rfl, ⟨rfl, ⟨rfl, ⟨rfl, ⟨rfl, ⟨rfl, ⟨rfl, ⟨rfl, ⟨rfl, trivial⟩⟩⟩⟩⟩⟩⟩⟩⟩⟩ (lp113 N y68_8 y68_9 r70 m68 h)
      exact rsub [(0, .ref 0), (1, .long x1), (3, .int x3), (4, .int x4), (5, .long ((((((lsl x1 4)) ||| ((((4 * x4.toInt64)) + x3.toInt64)))) + 1))), (7, .int z5_7), (8, .int 0), (9, .long x1), (11, .int 0)] ⟨rfl, ⟨rfl, ⟨rfl, ⟨rfl, ⟨rfl, ⟨rfl, ⟨rfl, ⟨rfl, ⟨rfl, trivial⟩⟩⟩⟩⟩⟩⟩⟩⟩ ⟨rfl, ⟨rfl, ⟨rfl, ⟨rfl, ⟨rfl, ⟨rfl, ⟨rfl, ⟨rfl, ⟨rfl, trivial⟩⟩⟩⟩⟩⟩⟩⟩⟩ (lp98 N 0 x1 0 m h)
  have lp30 : ∀ (n : Nat) (y80_7 : Int32), (f_Mo_ends_L30 N x1 x3 x4 ((((((lsl x1 4)) ||| ((((4 * x4.toInt64)) + x3.toInt64)))) + 1)) m (fun (z5_7 : Int32) => ck (ix z5_7 262144) ((if ((mYy m 14 z5_7.toNatClampNeg)) = ((((((lsl x1 4)) ||| ((((4 * x4.toInt64)) + x3.toInt64)))) + 1)) then ck (ix z5_7 262144) (some ((mX m 15 z5_7.toNatClampNeg), m)) else f_Mo_ends_L98 N x1 x3 x4 ((((((lsl x1 4)) ||| ((((4 * x4.toInt64)) + x3.toInt64)))) + 1)) z5_7 (fun (z18_8 : Int32) (z18_9 : Int64) (z18_11 : Int32) (m18 : Mm) => (jn (fun (s19 : Int32) => f_Mo_ends_L195 N x1 x3 x4 ((((((lsl x1 4)) ||| ((((4 * x4.toInt64)) + x3.toInt64)))) + 1)) z5_7 z18_8 z18_9 s19 m18 (fun (z40_12 : Int32) (z40_13 : Int32) => (if 131072 ≤ ((mI m18 0 33)) then some (z40_12, m18) else ck (ix z5_7 262144) (ck (ix z5_7 262144) (some (z40_12, (vI (vX (vY m18 14 z5_7.toNatClampNeg ((((((lsl x1 4)) ||| ((((4 * x4.toInt64)) + x3.toInt64)))) + 1))) 15 z5_7.toNatClampNeg z40_12) 0 33 ((((mI m18 0 33)) + 1)))))))) N ((-2147483648)) 0) (fun j185 => if z18_8 = 0 then j185 1 else (if z18_8 = 1 then j185 3 else (if z18_8 = 2 then j185 9 else j185 27))))) N 0 x1 0 m))) n y80_7) = some (r0, mf) → RN xs L al (Ev xs L al d) 185 30 [(0, .ref 0), (1, .long x1), (3, .int x3), (4, .int x4), (5, .long ((((((lsl x1 4)) ||| ((((4 * x4.toInt64)) + x3.toInt64)))) + 1))), (7, .int y80_7)] [] (m, S) (some (.int r0)) (mf, S) := by
    intro n
    induction n with
    | zero => intro y80_7 h; exact absurd h (by simp [f_Mo_ends_L30])
    | succ n30 ih30 =>
      intro y80_7 h
      try dsimp only at h
      rw [f_Mo_ends_L30] at h
      try dsimp only at h
      refine rsn 1 (t := (31, [(0, .ref 0), (1, .long x1), (3, .int x3), (4, .int x4), (5, .long ((((((lsl x1 4)) ||| ((((4 * x4.toInt64)) + x3.toInt64)))) + 1))), (7, .int y80_7)], [.ref 0])) rfl ?_
      refine rgR rfl rfl rfl (hSh.k 0 rfl _) (hSh.r 13 rfl _) ?_
      refine rsn 1 (t := (36, [(0, .ref 0), (1, .long x1), (3, .int x3), (4, .int x4), (5, .long ((((((lsl x1 4)) ||| ((((4 * x4.toInt64)) + x3.toInt64)))) + 1))), (7, .int y80_7)], [.int y80_7, .ref 14])) rfl ?_
      obtain ⟨c81, h⟩ := ck_some h
      refine pxJ rfl (hSh.k 14 rfl _) (hSh.l 13 rfl _) c81 ?_
      show RN xs L al (Ev xs L al d) 185 37 [(0, .ref 0), (1, .long x1), (3, .int x3), (4, .int x4), (5, .long ((((((lsl x1 4)) ||| ((((4 * x4.toInt64)) + x3.toInt64)))) + 1))), (7, .int y80_7)] [.long ((mYy m 14 y80_7.toNatClampNeg))] (m, S) (some (.int r0)) (mf, S)
      refine rsn 2 (t := (39, [(0, .ref 0), (1, .long x1), (3, .int x3), (4, .int x4), (5, .long ((((((lsl x1 4)) ||| ((((4 * x4.toInt64)) + x3.toInt64)))) + 1))), (7, .int y80_7)], [.int ((lg_cmp ((mYy m 14 y80_7.toNatClampNeg)) 0))])) rfl ?_
      by_cases c82 : ((mYy m 14 y80_7.toNatClampNeg)) = 0
      · rw [if_pos c82] at h
        refine rjt (a := (68, [(0, .ref 0), (1, .long x1), (3, .int x3), (4, .int x4), (5, .long ((((((lsl x1 4)) ||| ((((4 * x4.toInt64)) + x3.toInt64)))) + 1))), (7, .int y80_7)], [])) (b := (42, [(0, .ref 0), (1, .long x1), (3, .int x3), (4, .int x4), (5, .long ((((((lsl x1 4)) ||| ((((4 * x4.toInt64)) + x3.toInt64)))) + 1))), (7, .int y80_7)], [])) rfl rfl (lgc_eq.mpr c82) ?_
        exact rsub [(0, .ref 0), (1, .long x1), (3, .int x3), (4, .int x4), (5, .long ((((((lsl x1 4)) ||| ((((4 * x4.toInt64)) + x3.toInt64)))) + 1))), (7, .int y80_7)] ⟨rfl, ⟨rfl, ⟨rfl, ⟨rfl, ⟨rfl, ⟨rfl, trivial⟩⟩⟩⟩⟩⟩ ⟨rfl, ⟨rfl, ⟨rfl, ⟨rfl, ⟨rfl, ⟨rfl, trivial⟩⟩⟩⟩⟩⟩ (ex30 y80_7 h)
      · rw [if_neg c82] at h
        refine rjf (a := (68, [(0, .ref 0), (1, .long x1), (3, .int x3), (4, .int x4), (5, .long ((((((lsl x1 4)) ||| ((((4 * x4.toInt64)) + x3.toInt64)))) + 1))), (7, .int y80_7)], [])) (b := (42, [(0, .ref 0), (1, .long x1), (3, .int x3), (4, .int x4), (5, .long ((((((lsl x1 4)) ||| ((((4 * x4.toInt64)) + x3.toInt64)))) + 1))), (7, .int y80_7)], [])) rfl rfl (fun q => c82 (lgc_eq.mp q)) ?_
        refine rsn 1 (t := (43, [(0, .ref 0), (1, .long x1), (3, .int x3), (4, .int x4), (5, .long ((((((lsl x1 4)) ||| ((((4 * x4.toInt64)) + x3.toInt64)))) + 1))), (7, .int y80_7)], [.ref 0])) rfl ?_
        refine rgR rfl rfl rfl (hSh.k 0 rfl _) (hSh.r 13 rfl _) ?_
        refine rsn 1 (t := (48, [(0, .ref 0), (1, .long x1), (3, .int x3), (4, .int x4), (5, .long ((((((lsl x1 4)) ||| ((((4 * x4.toInt64)) + x3.toInt64)))) + 1))), (7, .int y80_7)], [.int y80_7, .ref 14])) rfl ?_
        obtain ⟨c83, h⟩ := ck_some h
        refine pxJ rfl (hSh.k 14 rfl _) (hSh.l 13 rfl _) c83 ?_
        show RN xs L al (Ev xs L al d) 185 49 [(0, .ref 0), (1, .long x1), (3, .int x3), (4, .int x4), (5, .long ((((((lsl x1 4)) ||| ((((4 * x4.toInt64)) + x3.toInt64)))) + 1))), (7, .int y80_7)] [.long ((mYy m 14 y80_7.toNatClampNeg))] (m, S) (some (.int r0)) (mf, S)
        refine rsn 2 (t := (52, [(0, .ref 0), (1, .long x1), (3, .int x3), (4, .int x4), (5, .long ((((((lsl x1 4)) ||| ((((4 * x4.toInt64)) + x3.toInt64)))) + 1))), (7, .int y80_7)], [.int ((lg_cmp ((mYy m 14 y80_7.toNatClampNeg)) ((((((lsl x1 4)) ||| ((((4 * x4.toInt64)) + x3.toInt64)))) + 1))))])) rfl ?_
        by_cases c84 : ((mYy m 14 y80_7.toNatClampNeg)) = ((((((lsl x1 4)) ||| ((((4 * x4.toInt64)) + x3.toInt64)))) + 1))
        · rw [if_pos c84] at h
          refine rjt (a := (68, [(0, .ref 0), (1, .long x1), (3, .int x3), (4, .int x4), (5, .long ((((((lsl x1 4)) ||| ((((4 * x4.toInt64)) + x3.toInt64)))) + 1))), (7, .int y80_7)], [])) (b := (55, [(0, .ref 0), (1, .long x1), (3, .int x3), (4, .int x4), (5, .long ((((((lsl x1 4)) ||| ((((4 * x4.toInt64)) + x3.toInt64)))) + 1))), (7, .int y80_7)], [])) rfl rfl (lgc_eq.mpr c84) ?_
          exact rsub [(0, .ref 0), (1, .long x1), (3, .int x3), (4, .int x4), (5, .long ((((((lsl x1 4)) ||| ((((4 * x4.toInt64)) + x3.toInt64)))) + 1))), (7, .int y80_7)] ⟨rfl, ⟨rfl, ⟨rfl, ⟨rfl, ⟨rfl, ⟨rfl, trivial⟩⟩⟩⟩⟩⟩ ⟨rfl, ⟨rfl, ⟨rfl, ⟨rfl, ⟨rfl, ⟨rfl, trivial⟩⟩⟩⟩⟩⟩ (ex30 y80_7 h)
        · rw [if_neg c84] at h
          refine rjf (a := (68, [(0, .ref 0), (1, .long x1), (3, .int x3), (4, .int x4), (5, .long ((((((lsl x1 4)) ||| ((((4 * x4.toInt64)) + x3.toInt64)))) + 1))), (7, .int y80_7)], [])) (b := (55, [(0, .ref 0), (1, .long x1), (3, .int x3), (4, .int x4), (5, .long ((((((lsl x1 4)) ||| ((((4 * x4.toInt64)) + x3.toInt64)))) + 1))), (7, .int y80_7)], [])) rfl rfl (fun q => c84 (lgc_eq.mp q)) ?_
          refine rsn 7 (t := (30, [(7, .int ((((y80_7 + 1)) &&& 262143))), (0, .ref 0), (1, .long x1), (3, .int x3), (4, .int x4), (5, .long ((((((lsl x1 4)) ||| ((((4 * x4.toInt64)) + x3.toInt64)))) + 1)))], [])) rfl ?_
          exact rsub [(0, .ref 0), (1, .long x1), (3, .int x3), (4, .int x4), (5, .long ((((((lsl x1 4)) ||| ((((4 * x4.toInt64)) + x3.toInt64)))) + 1))), (7, .int ((((y80_7 + 1)) &&& 262143)))] ⟨rfl, ⟨rfl, ⟨rfl, ⟨rfl, ⟨rfl, ⟨rfl, trivial⟩⟩⟩⟩⟩⟩ ⟨rfl, ⟨rfl, ⟨rfl, ⟨rfl, ⟨rfl, ⟨rfl, trivial⟩⟩⟩⟩⟩⟩ (ih30 ((((y80_7 + 1)) &&& 262143)) h)
  exact rsub [(0, .ref 0), (1, .long x1), (3, .int x3), (4, .int x4), (5, .long ((((((lsl x1 4)) ||| ((((4 * x4.toInt64)) + x3.toInt64)))) + 1))), (7, .int (((lus ((((((((lsl x1 4)) ||| ((((4 * x4.toInt64)) + x3.toInt64)))) + 1)) * ((-7046029254386353131)))) 46)).toInt32))] ⟨rfl, ⟨rfl, ⟨rfl, ⟨rfl, ⟨rfl, ⟨rfl, trivial⟩⟩⟩⟩⟩⟩ ⟨rfl, ⟨rfl, ⟨rfl, ⟨rfl, ⟨rfl, ⟨rfl, trivial⟩⟩⟩⟩⟩⟩ (lp30 N (((lus ((((((((lsl x1 4)) ||| ((((4 * x4.toInt64)) + x3.toInt64)))) + 1)) * ((-7046029254386353131)))) 46)).toInt32) h)
