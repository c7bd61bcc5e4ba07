/-! The reference's methods as functions (printed by wip/whole/gen_fun.py). -/
def f_Mo_cost_L49 (N : Nat) (x1 : Int32) (x2 : Int32) (k49 : Int32 → Int32 → Mm → Option (Int32 × Mm)) : Nat → Int32 → Int32 → Mm → Option (Int32 × Mm)
  | 0, _, _, _ => none
  | n49 + 1, x3, x4, m => (if ((isl 1 ((2 * ((((mI m 0 18)) - ((mI m 0 24)))))))) ≤ x4 then k49 x3 x4 m else b2 (f_Mo_isAltRow N x4 m) fun r7 m7 => (if r7 = 0 then f_Mo_cost_L49 N x1 x2 k49 n49 x3 ((x4 + 1)) m7 else b2 (f_Mo_knownBy N x1 m7) fun r9 m9 => (if x3 = ((-2147483648)) then f_Mo_cost_L49 N x1 x2 k49 n49 r9 ((x4 + 1)) m9 else (if x3 ≤ r9 then f_Mo_cost_L49 N x1 x2 k49 n49 x3 ((x4 + 1)) m9 else f_Mo_cost_L49 N x1 x2 k49 n49 r9 ((x4 + 1)) m9))))
def f_Mo_cost (N : Nat) (x1 : Int32) (m : Mm) : Option (Int32 × Mm) := (if ((mI m 0 15)) = 0 then some ((-2147483648), m) else b1 (f_Mo_isGoal N x1) fun r2 => (if r2 = 0 then some ((-2147483648), m) else (if ((mI m 0 25)) = ((-1)) then b2 (f_Mo_solved N x1 0 ((mI m 0 21)) ((mI m 0 22)) m) fun r5 m5 => f_Mo_cost_L49 N x1 r5.toInt32 (fun (z12_3 : Int32) (z12_4 : Int32) (m12 : Mm) => some ((z12_3 - r5.toInt32), m12)) N ((-2147483648)) 0 m5 else some ((-2147483648), m))))
set_option maxRecDepth 20000 in
set_option maxHeartbeats 4000000 in
theorem e_Mo_cost {xs : Nat → Int32} {L : Nat} {al : Bool} (N : Nat) {d : Nat} (hd : 9 ≤ d) {S : St} (hSh : ShR S) {x1 : Int32} {m : Mm} {r0 : Int32} {mf : Mm} (h : f_Mo_cost N x1 m = some (r0, mf)) : Ev xs L al d 207 [.ref 0, .int x1] (m, S) (some (.int r0)) (mf, S) := by
  obtain ⟨d, rfl⟩ : ∃ e, d = e + 1 := ⟨d - 1, by omega⟩
  refine ev_of (by decide) (Nat.le_of_ble_eq_true rfl) ?_
  rw [f_Mo_cost] at h
  show RN xs L al (Ev xs L al d) 207 0 [(0, .ref 0), (1, .int x1)] [] (m, S) (some (.int r0)) (mf, S)
  refine rsn 1 (t := (1, [(0, .ref 0), (1, .int x1)], [.ref 0])) rfl ?_
  refine pgI rfl rfl rfl (hSh.k 0 rfl _) ?_
  show RN xs L al (Ev xs L al d) 207 4 [(0, .ref 0), (1, .int x1)] [.int ((mI m 0 15))] (m, S) (some (.int r0)) (mf, S)
  by_cases c1 : ((mI m 0 15)) = 0
  · rw [if_pos c1] at h
    refine rjt (a := (22, [(0, .ref 0), (1, .int x1)], [])) (b := (7, [(0, .ref 0), (1, .int x1)], [])) rfl rfl c1 ?_
    refine rsn 1 (t := (25, [(0, .ref 0), (1, .int x1)], [.int ((-2147483648))])) rfl ?_
    cases h
    exact rret rfl ⟨rfl, rfl, _, _, rfl, rfl, rfl, rfl⟩
  · rw [if_neg c1] at h
    refine rjf (a := (22, [(0, .ref 0), (1, .int x1)], [])) (b := (7, [(0, .ref 0), (1, .int x1)], [])) rfl rfl c1 ?_
    refine rsn 1 (t := (8, [(0, .ref 0), (1, .int x1)], [.int x1])) rfl ?_
    obtain ⟨r2, g2, h⟩ := b1_some h
    refine rcS 184 [.int x1] rfl rfl rfl (Nat.le_of_ble_eq_true rfl) rfl (e_Mo_isGoal N (by omega) g2) ?_
    show RN xs L al (Ev xs L al d) 207 11 [(0, .ref 0), (1, .int x1)] [.int r2] (m, S) (some (.int r0)) (mf, S)
    by_cases c3 : r2 = 0
    · rw [if_pos c3] at h
      refine rjt (a := (22, [(0, .ref 0), (1, .int x1)], [])) (b := (14, [(0, .ref 0), (1, .int x1)], [])) rfl rfl c3 ?_
      refine rsn 1 (t := (25, [(0, .ref 0), (1, .int x1)], [.int ((-2147483648))])) rfl ?_
      cases h
      exact rret rfl ⟨rfl, rfl, _, _, rfl, rfl, rfl, rfl⟩
    · rw [if_neg c3] at h
      refine rjf (a := (22, [(0, .ref 0), (1, .int x1)], [])) (b := (14, [(0, .ref 0), (1, .int x1)], [])) rfl rfl c3 ?_
      refine rsn 1 (t := (15, [(0, .ref 0), (1, .int x1)], [.ref 0])) rfl ?_
      refine pgI rfl rfl rfl (hSh.k 0 rfl _) ?_
      show RN xs L al (Ev xs L al d) 207 18 [(0, .ref 0), (1, .int x1)] [.int ((mI m 0 25))] (m, S) (some (.int r0)) (mf, S)
      refine rsn 1 (t := (19, [(0, .ref 0), (1, .int x1)], [.int ((-1)), .int ((mI m 0 25))])) rfl ?_
      by_cases c4 : ((mI m 0 25)) = ((-1))
      · rw [if_pos c4] at h
        refine rjt (a := (26, [(0, .ref 0), (1, .int x1)], [])) (b := (22, [(0, .ref 0), (1, .int x1)], [])) rfl rfl c4 ?_
        refine rsn 4 (t := (30, [(0, .ref 0), (1, .int x1)], [.ref 0, .int 0, .int x1, .ref 0])) rfl ?_
        refine pgI rfl rfl rfl (hSh.k 0 rfl _) ?_
        show RN xs L al (Ev xs L al d) 207 33 [(0, .ref 0), (1, .int x1)] [.int ((mI m 0 21)), .int 0, .int x1, .ref 0] (m, S) (some (.int r0)) (mf, S)
        refine rsn 1 (t := (34, [(0, .ref 0), (1, .int x1)], [.ref 0, .int ((mI m 0 21)), .int 0, .int x1, .ref 0])) rfl ?_
        refine pgI rfl rfl rfl (hSh.k 0 rfl _) ?_
        show RN xs L al (Ev xs L al d) 207 37 [(0, .ref 0), (1, .int x1)] [.int ((mI m 0 22)), .int ((mI m 0 21)), .int 0, .int x1, .ref 0] (m, S) (some (.int r0)) (mf, S)
        obtain ⟨r5, m5, g5, h⟩ := b2_some h
        refine rcV 193 0 [.int x1, .int 0, .int ((mI m 0 21)), .int ((mI m 0 22))] rfl rfl rfl (hSh.k 0 rfl _) (Nat.le_of_ble_eq_true rfl) rfl (e_Mo_solved N (by omega) hSh g5) ?_
        show RN xs L al (Ev xs L al d) 207 40 [(0, .ref 0), (1, .int x1)] [.long r5] (m5, S) (some (.int r0)) (mf, S)
        refine rsn 6 (t := (49, [(4, .int 0), (3, .int ((-2147483648))), (2, .int r5.toInt32), (0, .ref 0), (1, .int x1)], [])) rfl ?_
        have ex49 : ∀ (z12_3 : Int32) (z12_4 : Int32) (m12 : Mm), (some ((z12_3 - r5.toInt32), m12)) = some (r0, mf) → RN xs L al (Ev xs L al d) 207 112 [(2, .int r5.toInt32), (3, .int z12_3)] [] (m12, S) (some (.int r0)) (mf, S) := by
          intro z12_3 z12_4 m12 h
          try dsimp only at h
          refine rsn 3 (t := (115, [(2, .int r5.toInt32), (3, .int z12_3)], [.int ((z12_3 - r5.toInt32))])) rfl ?_
          cases h
          exact rret rfl ⟨rfl, rfl, _, _, rfl, rfl, rfl, rfl⟩
        have lp49 : ∀ (n : Nat) (y13_3 : Int32) (y13_4 : Int32) (m13 : Mm), (f_Mo_cost_L49 N x1 r5.toInt32 (fun (z12_3 : Int32) (z12_4 : Int32) (m12 : Mm) => some ((z12_3 - r5.toInt32), m12)) n y13_3 y13_4 m13) = some (r0, mf) → RN xs L al (Ev xs L al d) 207 49 [(0, .ref 0), (1, .int x1), (2, .int r5.toInt32), (3, .int y13_3), (4, .int y13_4)] [] (m13, S) (some (.int r0)) (mf, S) := by
          intro n
          induction n with
          | zero => intro y13_3 y13_4 m13 h; exact absurd h (by simp [f_Mo_cost_L49])
          | succ n49 ih49 =>
            intro y13_3 y13_4 m13 h
            try dsimp only at h
            rw [f_Mo_cost_L49] at h
            try dsimp only at h
            refine rsn 4 (t := (54, [(0, .ref 0), (1, .int x1), (2, .int r5.toInt32), (3, .int y13_3), (4, .int y13_4)], [.ref 0, .int 2, .int 1, .int y13_4])) rfl ?_
            refine pgI rfl rfl rfl (hSh.k 0 rfl _) ?_
            show RN xs L al (Ev xs L al d) 207 57 [(0, .ref 0), (1, .int x1), (2, .int r5.toInt32), (3, .int y13_3), (4, .int y13_4)] [.int ((mI m13 0 18)), .int 2, .int 1, .int y13_4] (m13, S) (some (.int r0)) (mf, S)
            refine rsn 1 (t := (58, [(0, .ref 0), (1, .int x1), (2, .int r5.toInt32), (3, .int y13_3), (4, .int y13_4)], [.ref 0, .int ((mI m13 0 18)), .int 2, .int 1, .int y13_4])) rfl ?_
            refine pgI rfl rfl rfl (hSh.k 0 rfl _) ?_
            show RN xs L al (Ev xs L al d) 207 61 [(0, .ref 0), (1, .int x1), (2, .int r5.toInt32), (3, .int y13_3), (4, .int y13_4)] [.int ((mI m13 0 24)), .int ((mI m13 0 18)), .int 2, .int 1, .int y13_4] (m13, S) (some (.int r0)) (mf, S)
            refine rsn 3 (t := (64, [(0, .ref 0), (1, .int x1), (2, .int r5.toInt32), (3, .int y13_3), (4, .int y13_4)], [.int ((isl 1 ((2 * ((((mI m13 0 18)) - ((mI m13 0 24)))))))), .int y13_4])) rfl ?_
            by_cases c14 : ((isl 1 ((2 * ((((mI m13 0 18)) - ((mI m13 0 24)))))))) ≤ y13_4
            · rw [if_pos c14] at h
              refine rjt (a := (112, [(0, .ref 0), (1, .int x1), (2, .int r5.toInt32), (3, .int y13_3), (4, .int y13_4)], [])) (b := (67, [(0, .ref 0), (1, .int x1), (2, .int r5.toInt32), (3, .int y13_3), (4, .int y13_4)], [])) rfl rfl c14 ?_
              exact rsub [(2, .int r5.toInt32), (3, .int y13_3)] ⟨rfl, ⟨rfl, trivial⟩⟩ ⟨rfl, ⟨rfl, trivial⟩⟩ (ex49 y13_3 y13_4 m13 h)
            · rw [if_neg c14] at h
              refine rjf (a := (112, [(0, .ref 0), (1, .int x1), (2, .int r5.toInt32), (3, .int y13_3), (4, .int y13_4)], [])) (b := (67, [(0, .ref 0), (1, .int x1), (2, .int r5.toInt32), (3, .int y13_3), (4, .int y13_4)], [])) rfl rfl c14 ?_
              refine rsn 2 (t := (70, [(0, .ref 0), (1, .int x1), (2, .int r5.toInt32), (3, .int y13_3), (4, .int y13_4)], [.int y13_4, .ref 0])) rfl ?_
              obtain ⟨r15, m15, g15, h⟩ := b2_some h
              refine rcV 204 0 [.int y13_4] rfl rfl rfl (hSh.k 0 rfl _) (Nat.le_of_ble_eq_true rfl) rfl (e_Mo_isAltRow N (by omega) hSh g15) ?_
              show RN xs L al (Ev xs L al d) 207 73 [(0, .ref 0), (1, .int x1), (2, .int r5.toInt32), (3, .int y13_3), (4, .int y13_4)] [.int r15] (m15, S) (some (.int r0)) (mf, S)
              by_cases c16 : r15 = 0
              · rw [if_pos c16] at h
                refine rjf (a := (79, [(0, .ref 0), (1, .int x1), (2, .int r5.toInt32), (3, .int y13_3), (4, .int y13_4)], [])) (b := (76, [(0, .ref 0), (1, .int x1), (2, .int r5.toInt32), (3, .int y13_3), (4, .int y13_4)], [])) rfl rfl (fun q => q c16) ?_
                refine rsn 3 (t := (49, [(4, .int ((y13_4 + 1))), (0, .ref 0), (1, .int x1), (2, .int r5.toInt32), (3, .int y13_3)], [])) rfl ?_
                exact rsub [(0, .ref 0), (1, .int x1), (2, .int r5.toInt32), (3, .int y13_3), (4, .int ((y13_4 + 1)))] ⟨rfl, ⟨rfl, ⟨rfl, ⟨rfl, ⟨rfl, trivial⟩⟩⟩⟩⟩ ⟨rfl, ⟨rfl, ⟨rfl, ⟨rfl, ⟨rfl, trivial⟩⟩⟩⟩⟩ (ih49 y13_3 ((y13_4 + 1)) m15 h)
              · rw [if_neg c16] at h
                refine rjt (a := (79, [(0, .ref 0), (1, .int x1), (2, .int r5.toInt32), (3, .int y13_3), (4, .int y13_4)], [])) (b := (76, [(0, .ref 0), (1, .int x1), (2, .int r5.toInt32), (3, .int y13_3), (4, .int y13_4)], [])) rfl rfl c16 ?_
                refine rsn 2 (t := (81, [(0, .ref 0), (1, .int x1), (2, .int r5.toInt32), (3, .int y13_3), (4, .int y13_4)], [.int x1, .ref 0])) rfl ?_
                obtain ⟨r17, m17, g17, h⟩ := b2_some h
                refine rcV 206 0 [.int x1] rfl rfl rfl (hSh.k 0 rfl _) (Nat.le_of_ble_eq_true rfl) rfl (e_Mo_knownBy N (by omega) hSh g17) ?_
                show RN xs L al (Ev xs L al d) 207 84 [(0, .ref 0), (1, .int x1), (2, .int r5.toInt32), (3, .int y13_3), (4, .int y13_4)] [.int r17] (m17, S) (some (.int r0)) (mf, S)
                refine rsn 3 (t := (90, [(5, .int r17), (0, .ref 0), (1, .int x1), (2, .int r5.toInt32), (3, .int y13_3), (4, .int y13_4)], [.int ((-2147483648)), .int y13_3])) rfl ?_
                by_cases c18 : y13_3 = ((-2147483648))
                · rw [if_pos c18] at h
                  refine rjt (a := (99, [(5, .int r17), (0, .ref 0), (1, .int x1), (2, .int r5.toInt32), (3, .int y13_3), (4, .int y13_4)], [])) (b := (93, [(5, .int r17), (0, .ref 0), (1, .int x1), (2, .int r5.toInt32), (3, .int y13_3), (4, .int y13_4)], [])) rfl rfl c18 ?_
                  refine rsn 5 (t := (49, [(4, .int ((y13_4 + 1))), (3, .int r17), (5, .int r17), (0, .ref 0), (1, .int x1), (2, .int r5.toInt32)], [])) rfl ?_
                  exact rsub [(0, .ref 0), (1, .int x1), (2, .int r5.toInt32), (3, .int r17), (4, .int ((y13_4 + 1)))] ⟨rfl, ⟨rfl, ⟨rfl, ⟨rfl, ⟨rfl, trivial⟩⟩⟩⟩⟩ ⟨rfl, ⟨rfl, ⟨rfl, ⟨rfl, ⟨rfl, trivial⟩⟩⟩⟩⟩ (ih49 r17 ((y13_4 + 1)) m17 h)
                · rw [if_neg c18] at h
                  refine rjf (a := (99, [(5, .int r17), (0, .ref 0), (1, .int x1), (2, .int r5.toInt32), (3, .int y13_3), (4, .int y13_4)], [])) (b := (93, [(5, .int r17), (0, .ref 0), (1, .int x1), (2, .int r5.toInt32), (3, .int y13_3), (4, .int y13_4)], [])) rfl rfl c18 ?_
                  refine rsn 2 (t := (96, [(5, .int r17), (0, .ref 0), (1, .int x1), (2, .int r5.toInt32), (3, .int y13_3), (4, .int y13_4)], [.int y13_3, .int r17])) rfl ?_
                  by_cases c19 : y13_3 ≤ r17
                  · rw [if_pos c19] at h
                    refine rjt (a := (104, [(5, .int r17), (0, .ref 0), (1, .int x1), (2, .int r5.toInt32), (3, .int y13_3), (4, .int y13_4)], [])) (b := (99, [(5, .int r17), (0, .ref 0), (1, .int x1), (2, .int r5.toInt32), (3, .int y13_3), (4, .int y13_4)], [])) rfl rfl c19 ?_
                    refine rsn 4 (t := (49, [(4, .int ((y13_4 + 1))), (3, .int y13_3), (5, .int r17), (0, .ref 0), (1, .int x1), (2, .int r5.toInt32)], [])) rfl ?_
                    exact rsub [(0, .ref 0), (1, .int x1), (2, .int r5.toInt32), (3, .int y13_3), (4, .int ((y13_4 + 1)))] ⟨rfl, ⟨rfl, ⟨rfl, ⟨rfl, ⟨rfl, trivial⟩⟩⟩⟩⟩ ⟨rfl, ⟨rfl, ⟨rfl, ⟨rfl, ⟨rfl, trivial⟩⟩⟩⟩⟩ (ih49 y13_3 ((y13_4 + 1)) m17 h)
                  · rw [if_neg c19] at h
                    refine rjf (a := (104, [(5, .int r17), (0, .ref 0), (1, .int x1), (2, .int r5.toInt32), (3, .int y13_3), (4, .int y13_4)], [])) (b := (99, [(5, .int r17), (0, .ref 0), (1, .int x1), (2, .int r5.toInt32), (3, .int y13_3), (4, .int y13_4)], [])) rfl rfl c19 ?_
                    refine rsn 5 (t := (49, [(4, .int ((y13_4 + 1))), (3, .int r17), (5, .int r17), (0, .ref 0), (1, .int x1), (2, .int r5.toInt32)], [])) rfl ?_
                    exact rsub [(0, .ref 0), (1, .int x1), (2, .int r5.toInt32), (3, .int r17), (4, .int ((y13_4 + 1)))] ⟨rfl, ⟨rfl, ⟨rfl, ⟨rfl, ⟨rfl, trivial⟩⟩⟩⟩⟩ ⟨rfl, ⟨rfl, ⟨rfl, ⟨rfl, ⟨rfl, trivial⟩⟩⟩⟩⟩ (ih49 r17 ((y13_4 + 1)) m17 h)
        exact rsub [(0, .ref 0), (1, .int x1), (2, .int r5.toInt32), (3, .int ((-2147483648))), (4, .int 0)] ⟨rfl, ⟨rfl, ⟨rfl, ⟨rfl, ⟨rfl, trivial⟩⟩⟩⟩⟩ ⟨rfl, ⟨rfl, ⟨rfl, ⟨rfl, ⟨rfl, trivial⟩⟩⟩⟩⟩ (lp49 N ((-2147483648)) 0 m5 h)
      · rw [if_neg c4] at h
        refine rjf (a := (26, [(0, .ref 0), (1, .int x1)], [])) (b := (22, [(0, .ref 0), (1, .int x1)], [])) rfl rfl c4 ?_
        refine rsn 1 (t := (25, [(0, .ref 0), (1, .int x1)], [.int ((-2147483648))])) rfl ?_
        cases h
        exact rret rfl ⟨rfl, rfl, _, _, rfl, rfl, rfl, rfl⟩
def f_Mo_isBefore (N : Nat) (x1 : Int64) (x3 : Int32) (x4 : Int32) (x5 : Int32) (x6 : Int32) (m : Mm) : Option (Int32) := (if x6 = 0 then ck (ix ((((3 * x3)) + x5)) 9) (ck (ix ((((3 * x4)) + x5)) 9) ((if ((mX m 7 (((((3 * x3)) + x5)).toNatClampNeg))) ≤ ((mX m 7 (((((3 * x4)) + x5)).toNatClampNeg))) then some 0 else some 1))) else (if x6 = 2 then b1 (f_Mo_worthTo N x1 x3 x3 m) fun r6 => b1 (f_Mo_worthTo N x1 x4 x4 m) fun r7 => (if r7 ≤ r6 then some 0 else some 1) else b1 (f_Mo_manyOf N x1 x3) fun r3 => b1 (f_Mo_manyOf N x1 x4) fun r4 => (if r4 ≤ r3 then some 0 else some 1)))
set_option maxRecDepth 20000 in
set_option maxHeartbeats 4000000 in
theorem e_Mo_isBefore {xs : Nat → Int32} {L : Nat} {al : Bool} (N : Nat) {d : Nat} (hd : 3 ≤ d) {S : St} (hSh : ShR S) {x1 : Int64} {x3 : Int32} {x4 : Int32} {x5 : Int32} {x6 : Int32} {m : Mm} {r0 : Int32} (h : f_Mo_isBefore N x1 x3 x4 x5 x6 m = some r0) : Ev xs L al d 210 [.ref 0, .long x1, .int x3, .int x4, .int x5, .int x6] (m, S) (some (.int r0)) (m, S) := by
  obtain ⟨d, rfl⟩ : ∃ e, d = e + 1 := ⟨d - 1, by omega⟩
  refine ev_of (by decide) (Nat.le_of_ble_eq_true rfl) ?_
  rw [f_Mo_isBefore] at h
  show RN xs L al (Ev xs L al d) 210 0 [(0, .ref 0), (1, .long x1), (3, .int x3), (4, .int x4), (5, .int x5), (6, .int x6)] [] (m, S) (some (.int r0)) (m, S)
  refine rsn 1 (t := (2, [(0, .ref 0), (1, .long x1), (3, .int x3), (4, .int x4), (5, .int x5), (6, .int x6)], [.int x6])) rfl ?_
  by_cases c1 : x6 = 0
  · rw [if_pos c1] at h
    refine rjf (a := (37, [(0, .ref 0), (1, .long x1), (3, .int x3), (4, .int x4), (5, .int x5), (6, .int x6)], [])) (b := (5, [(0, .ref 0), (1, .long x1), (3, .int x3), (4, .int x4), (5, .int x5), (6, .int x6)], [])) rfl rfl (fun q => q c1) ?_
    refine rsn 1 (t := (6, [(0, .ref 0), (1, .long x1), (3, .int x3), (4, .int x4), (5, .int x5), (6, .int x6)], [.ref 0])) rfl ?_
    refine rgR rfl rfl rfl (hSh.k 0 rfl _) (hSh.r 6 rfl _) ?_
    refine rsn 5 (t := (15, [(0, .ref 0), (1, .long x1), (3, .int x3), (4, .int x4), (5, .int x5), (6, .int x6)], [.int ((((3 * x3)) + x5)), .ref 7])) rfl ?_
    obtain ⟨c9, h⟩ := ck_some h
    refine pxI rfl (hSh.k 7 rfl _) (hSh.l 6 rfl _) c9 ?_
    show RN xs L al (Ev xs L al d) 210 16 [(0, .ref 0), (1, .long x1), (3, .int x3), (4, .int x4), (5, .int x5), (6, .int x6)] [.int ((mX m 7 (((((3 * x3)) + x5)).toNatClampNeg)))] (m, S) (some (.int r0)) (m, S)
    refine rsn 1 (t := (17, [(0, .ref 0), (1, .long x1), (3, .int x3), (4, .int x4), (5, .int x5), (6, .int x6)], [.ref 0, .int ((mX m 7 (((((3 * x3)) + x5)).toNatClampNeg)))])) rfl ?_
    refine rgR rfl rfl rfl (hSh.k 0 rfl _) (hSh.r 6 rfl _) ?_
    refine rsn 5 (t := (27, [(0, .ref 0), (1, .long x1), (3, .int x3), (4, .int x4), (5, .int x5), (6, .int x6)], [.int ((((3 * x4)) + x5)), .ref 7, .int ((mX m 7 (((((3 * x3)) + x5)).toNatClampNeg)))])) rfl ?_
    obtain ⟨c10, h⟩ := ck_some h
    refine pxI rfl (hSh.k 7 rfl _) (hSh.l 6 rfl _) c10 ?_
    show RN xs L al (Ev xs L al d) 210 28 [(0, .ref 0), (1, .long x1), (3, .int x3), (4, .int x4), (5, .int x5), (6, .int x6)] [.int ((mX m 7 (((((3 * x4)) + x5)).toNatClampNeg))), .int ((mX m 7 (((((3 * x3)) + x5)).toNatClampNeg)))] (m, S) (some (.int r0)) (m, S)
    by_cases c11 : ((mX m 7 (((((3 * x3)) + x5)).toNatClampNeg))) ≤ ((mX m 7 (((((3 * x4)) + x5)).toNatClampNeg)))
    · rw [if_pos c11] at h
      refine rjt (a := (35, [(0, .ref 0), (1, .long x1), (3, .int x3), (4, .int x4), (5, .int x5), (6, .int x6)], [])) (b := (31, [(0, .ref 0), (1, .long x1), (3, .int x3), (4, .int x4), (5, .int x5), (6, .int x6)], [])) rfl rfl c11 ?_
      refine rsn 1 (t := (36, [(0, .ref 0), (1, .long x1), (3, .int x3), (4, .int x4), (5, .int x5), (6, .int x6)], [.int 0])) rfl ?_
      cases h
      exact rret rfl ⟨rfl, rfl, _, _, rfl, rfl, rfl, rfl⟩
    · rw [if_neg c11] at h
      refine rjf (a := (35, [(0, .ref 0), (1, .long x1), (3, .int x3), (4, .int x4), (5, .int x5), (6, .int x6)], [])) (b := (31, [(0, .ref 0), (1, .long x1), (3, .int x3), (4, .int x4), (5, .int x5), (6, .int x6)], [])) rfl rfl c11 ?_
      refine rsn 2 (t := (36, [(0, .ref 0), (1, .long x1), (3, .int x3), (4, .int x4), (5, .int x5), (6, .int x6)], [.int 1])) rfl ?_
      cases h
      exact rret rfl ⟨rfl, rfl, _, _, rfl, rfl, rfl, rfl⟩
  · rw [if_neg c1] at h
    refine rjt (a := (37, [(0, .ref 0), (1, .long x1), (3, .int x3), (4, .int x4), (5, .int x5), (6, .int x6)], [])) (b := (5, [(0, .ref 0), (1, .long x1), (3, .int x3), (4, .int x4), (5, .int x5), (6, .int x6)], [])) rfl rfl c1 ?_
    refine rsn 2 (t := (40, [(0, .ref 0), (1, .long x1), (3, .int x3), (4, .int x4), (5, .int x5), (6, .int x6)], [.int 2, .int x6])) rfl ?_
    by_cases c2 : x6 = 2
    · rw [if_pos c2] at h
      refine rjf (a := (68, [(0, .ref 0), (1, .long x1), (3, .int x3), (4, .int x4), (5, .int x5), (6, .int x6)], [])) (b := (43, [(0, .ref 0), (1, .long x1), (3, .int x3), (4, .int x4), (5, .int x5), (6, .int x6)], [])) rfl rfl (fun q => q c2) ?_
      refine rsn 4 (t := (47, [(0, .ref 0), (1, .long x1), (3, .int x3), (4, .int x4), (5, .int x5), (6, .int x6)], [.int x3, .int x3, .long x1, .ref 0])) rfl ?_
      obtain ⟨r6, g6, h⟩ := b1_some h
      refine rcV 175 0 [.long x1, .int x3, .int x3] rfl rfl rfl (hSh.k 0 rfl _) (Nat.le_of_ble_eq_true rfl) rfl (e_Mo_worthTo N (by omega) hSh g6) ?_
      show RN xs L al (Ev xs L al d) 210 50 [(0, .ref 0), (1, .long x1), (3, .int x3), (4, .int x4), (5, .int x5), (6, .int x6)] [.int r6] (m, S) (some (.int r0)) (m, S)
      refine rsn 4 (t := (56, [(0, .ref 0), (1, .long x1), (3, .int x3), (4, .int x4), (5, .int x5), (6, .int x6)], [.int x4, .int x4, .long x1, .ref 0, .int r6])) rfl ?_
      obtain ⟨r7, g7, h⟩ := b1_some h
      refine rcV 175 0 [.long x1, .int x4, .int x4] rfl rfl rfl (hSh.k 0 rfl _) (Nat.le_of_ble_eq_true rfl) rfl (e_Mo_worthTo N (by omega) hSh g7) ?_
      show RN xs L al (Ev xs L al d) 210 59 [(0, .ref 0), (1, .long x1), (3, .int x3), (4, .int x4), (5, .int x5), (6, .int x6)] [.int r7, .int r6] (m, S) (some (.int r0)) (m, S)
      by_cases c8 : r7 ≤ r6
      · rw [if_pos c8] at h
        refine rjt (a := (66, [(0, .ref 0), (1, .long x1), (3, .int x3), (4, .int x4), (5, .int x5), (6, .int x6)], [])) (b := (62, [(0, .ref 0), (1, .long x1), (3, .int x3), (4, .int x4), (5, .int x5), (6, .int x6)], [])) rfl rfl c8 ?_
        refine rsn 1 (t := (67, [(0, .ref 0), (1, .long x1), (3, .int x3), (4, .int x4), (5, .int x5), (6, .int x6)], [.int 0])) rfl ?_
        cases h
        exact rret rfl ⟨rfl, rfl, _, _, rfl, rfl, rfl, rfl⟩
      · rw [if_neg c8] at h
        refine rjf (a := (66, [(0, .ref 0), (1, .long x1), (3, .int x3), (4, .int x4), (5, .int x5), (6, .int x6)], [])) (b := (62, [(0, .ref 0), (1, .long x1), (3, .int x3), (4, .int x4), (5, .int x5), (6, .int x6)], [])) rfl rfl c8 ?_
        refine rsn 2 (t := (67, [(0, .ref 0), (1, .long x1), (3, .int x3), (4, .int x4), (5, .int x5), (6, .int x6)], [.int 1])) rfl ?_
        cases h
        exact rret rfl ⟨rfl, rfl, _, _, rfl, rfl, rfl, rfl⟩
    · rw [if_neg c2] at h
      refine rjt (a := (68, [(0, .ref 0), (1, .long x1), (3, .int x3), (4, .int x4), (5, .int x5), (6, .int x6)], [])) (b := (43, [(0, .ref 0), (1, .long x1), (3, .int x3), (4, .int x4), (5, .int x5), (6, .int x6)], [])) rfl rfl c2 ?_
      refine rsn 2 (t := (70, [(0, .ref 0), (1, .long x1), (3, .int x3), (4, .int x4), (5, .int x5), (6, .int x6)], [.int x3, .long x1])) rfl ?_
      obtain ⟨r3, g3, h⟩ := b1_some h
      refine rcS 211 [.long x1, .int x3] rfl rfl rfl (Nat.le_of_ble_eq_true rfl) rfl (e_Mo_manyOf N (by omega) g3) ?_
      show RN xs L al (Ev xs L al d) 210 73 [(0, .ref 0), (1, .long x1), (3, .int x3), (4, .int x4), (5, .int x5), (6, .int x6)] [.int r3] (m, S) (some (.int r0)) (m, S)
      refine rsn 2 (t := (76, [(0, .ref 0), (1, .long x1), (3, .int x3), (4, .int x4), (5, .int x5), (6, .int x6)], [.int x4, .long x1, .int r3])) rfl ?_
      obtain ⟨r4, g4, h⟩ := b1_some h
      refine rcS 211 [.long x1, .int x4] rfl rfl rfl (Nat.le_of_ble_eq_true rfl) rfl (e_Mo_manyOf N (by omega) g4) ?_
      show RN xs L al (Ev xs L al d) 210 79 [(0, .ref 0), (1, .long x1), (3, .int x3), (4, .int x4), (5, .int x5), (6, .int x6)] [.int r4, .int r3] (m, S) (some (.int r0)) (m, S)
      by_cases c5 : r4 ≤ r3
      · rw [if_pos c5] at h
        refine rjt (a := (86, [(0, .ref 0), (1, .long x1), (3, .int x3), (4, .int x4), (5, .int x5), (6, .int x6)], [])) (b := (82, [(0, .ref 0), (1, .long x1), (3, .int x3), (4, .int x4), (5, .int x5), (6, .int x6)], [])) rfl rfl c5 ?_
        refine rsn 1 (t := (87, [(0, .ref 0), (1, .long x1), (3, .int x3), (4, .int x4), (5, .int x5), (6, .int x6)], [.int 0])) rfl ?_
        cases h
        exact rret rfl ⟨rfl, rfl, _, _, rfl, rfl, rfl, rfl⟩
      · rw [if_neg c5] at h
        refine rjf (a := (86, [(0, .ref 0), (1, .long x1), (3, .int x3), (4, .int x4), (5, .int x5), (6, .int x6)], [])) (b := (82, [(0, .ref 0), (1, .long x1), (3, .int x3), (4, .int x4), (5, .int x5), (6, .int x6)], [])) rfl rfl c5 ?_
        refine rsn 2 (t := (87, [(0, .ref 0), (1, .long x1), (3, .int x3), (4, .int x4), (5, .int x5), (6, .int x6)], [.int 1])) rfl ?_
        cases h
        exact rret rfl ⟨rfl, rfl, _, _, rfl, rfl, rfl, rfl⟩
def f_Mo_goesTo_L25 (N : Nat) (x1 : Int64) (x3 : Int32) (x4 : Int32) (m : Mm) (k25 : Int32 → Int32 → Option (Int32)) : Nat → Int32 → Int32 → Option (Int32)
  | 0, _, _ => none
  | n25 + 1, x6, x7 => (if 3 ≤ x7 then k25 x6 x7 else b1 (f_Mo_hasCome N x1 x7) fun r2 => (if r2 = 0 then f_Mo_goesTo_L25 N x1 x3 x4 m k25 n25 x6 ((x7 + 1)) else (if x6 = ((-1)) then f_Mo_goesTo_L25 N x1 x3 x4 m k25 n25 x7 ((x7 + 1)) else (if x4 = 3 then b1 (f_Mo_isBefore N x1 x7 x6 x3 0 m) fun r8 => (if r8 = 0 then f_Mo_goesTo_L25 N x1 x3 x4 m k25 n25 x6 ((x7 + 1)) else f_Mo_goesTo_L25 N x1 x3 x4 m k25 n25 x7 ((x7 + 1))) else b1 (f_Mo_isBefore N x1 x7 x6 x3 x4 m) fun r6 => (if r6 = 0 then f_Mo_goesTo_L25 N x1 x3 x4 m k25 n25 x6 ((x7 + 1)) else f_Mo_goesTo_L25 N x1 x3 x4 m k25 n25 x7 ((x7 + 1)))))))
def f_Mo_goesTo (N : Nat) (x1 : Int64) (x3 : Int32) (x4 : Int32) (x5 : Int32) (m : Mm) : Option (Int32) := (jn (fun (_ : Unit) => f_Mo_goesTo_L25 N x1 x3 x4 m (fun (z10_6 : Int32) (z10_7 : Int32) => some z10_6) N ((-1)) 0) (fun j19 => if x4 = 3 then b1 (f_Mo_held N x1) fun r22 => (if ((mI m 0 21)) ≤ r22 then j19 () else some 3) else j19 ()))
set_option maxRecDepth 20000 in
set_option maxHeartbeats 4000000 in
theorem e_Mo_goesTo {xs : Nat → Int32} {L : Nat} {al : Bool} (N : Nat) {d : Nat} (hd : 4 ≤ d) {S : St} (hSh : ShR S) {x1 : Int64} {x3 : Int32} {x4 : Int32} {x5 : Int32} {m : Mm} {r0 : Int32} (h : f_Mo_goesTo N x1 x3 x4 x5 m = some r0) : Ev xs L al d 209 [.ref 0, .long x1, .int x3, .int x4, .int x5] (m, S) (some (.int r0)) (m, S) := by
  obtain ⟨d, rfl⟩ : ∃ e, d = e + 1 := ⟨d - 1, by omega⟩
  refine ev_of (by decide) (Nat.le_of_ble_eq_true rfl) ?_
  rw [f_Mo_goesTo] at h
  show RN xs L al (Ev xs L al d) 209 0 [(0, .ref 0), (1, .long x1), (3, .int x3), (4, .int x4), (5, .int x5)] [] (m, S) (some (.int r0)) (m, S)
  refine rsn 2 (t := (3, [(0, .ref 0), (1, .long x1), (3, .int x3), (4, .int x4), (5, .int x5)], [.int 3, .int x4])) rfl ?_
  have jp19 : ∀ (_ : Unit), (f_Mo_goesTo_L25 N x1 x3 x4 m (fun (z10_6 : Int32) (z10_7 : Int32) => some z10_6) N ((-1)) 0) = some r0 → RN xs L al (Ev xs L al d) 209 19 [(0, .ref 0), (1, .long x1), (3, .int x3), (4, .int x4)] [] (m, S) (some (.int r0)) (m, S) := by
    intro _ h
    try dsimp only at h
    refine rsn 4 (t := (25, [(7, .int 0), (6, .int ((-1))), (0, .ref 0), (1, .long x1), (3, .int x3), (4, .int x4)], [])) rfl ?_
    have ex25 : ∀ (z10_6 : Int32) (z10_7 : Int32), (some z10_6) = some r0 → RN xs L al (Ev xs L al d) 209 84 [(6, .int z10_6)] [] (m, S) (some (.int r0)) (m, S) := by
      intro z10_6 z10_7 h
      try dsimp only at h
      refine rsn 1 (t := (86, [(6, .int z10_6)], [.int z10_6])) rfl ?_
      cases h
      exact rret rfl ⟨rfl, rfl, _, _, rfl, rfl, rfl, rfl⟩
    have lp25 : ∀ (n : Nat) (y11_6 : Int32) (y11_7 : Int32), (f_Mo_goesTo_L25 N x1 x3 x4 m (fun (z10_6 : Int32) (z10_7 : Int32) => some z10_6) n y11_6 y11_7) = some r0 → RN xs L al (Ev xs L al d) 209 25 [(0, .ref 0), (1, .long x1), (3, .int x3), (4, .int x4), (6, .int y11_6), (7, .int y11_7)] [] (m, S) (some (.int r0)) (m, S) := by
      intro n
      induction n with
      | zero => intro y11_6 y11_7 h; exact absurd h (by simp [f_Mo_goesTo_L25])
      | succ n25 ih25 =>
        intro y11_6 y11_7 h
        try dsimp only at h
        rw [f_Mo_goesTo_L25] at h
        try dsimp only at h
        refine rsn 2 (t := (28, [(0, .ref 0), (1, .long x1), (3, .int x3), (4, .int x4), (6, .int y11_6), (7, .int y11_7)], [.int 3, .int y11_7])) rfl ?_
        by_cases c12 : 3 ≤ y11_7
        · rw [if_pos c12] at h
          refine rjt (a := (84, [(0, .ref 0), (1, .long x1), (3, .int x3), (4, .int x4), (6, .int y11_6), (7, .int y11_7)], [])) (b := (31, [(0, .ref 0), (1, .long x1), (3, .int x3), (4, .int x4), (6, .int y11_6), (7, .int y11_7)], [])) rfl rfl c12 ?_
          exact rsub [(6, .int y11_6)] ⟨rfl, trivial⟩ ⟨rfl, trivial⟩ (ex25 y11_6 y11_7 h)
        · rw [if_neg c12] at h
          refine rjf (a := (84, [(0, .ref 0), (1, .long x1), (3, .int x3), (4, .int x4), (6, .int y11_6), (7, .int y11_7)], [])) (b := (31, [(0, .ref 0), (1, .long x1), (3, .int x3), (4, .int x4), (6, .int y11_6), (7, .int y11_7)], [])) rfl rfl c12 ?_
          refine rsn 2 (t := (34, [(0, .ref 0), (1, .long x1), (3, .int x3), (4, .int x4), (6, .int y11_6), (7, .int y11_7)], [.int y11_7, .long x1])) rfl ?_
          obtain ⟨r13, g13, h⟩ := b1_some h
          refine rcS 173 [.long x1, .int y11_7] rfl rfl rfl (Nat.le_of_ble_eq_true rfl) rfl (e_Mo_hasCome N (by omega) g13) ?_
          show RN xs L al (Ev xs L al d) 209 37 [(0, .ref 0), (1, .long x1), (3, .int x3), (4, .int x4), (6, .int y11_6), (7, .int y11_7)] [.int r13] (m, S) (some (.int r0)) (m, S)
          by_cases c14 : r13 = 0
          · rw [if_pos c14] at h
            refine rjf (a := (43, [(0, .ref 0), (1, .long x1), (3, .int x3), (4, .int x4), (6, .int y11_6), (7, .int y11_7)], [])) (b := (40, [(0, .ref 0), (1, .long x1), (3, .int x3), (4, .int x4), (6, .int y11_6), (7, .int y11_7)], [])) rfl rfl (fun q => q c14) ?_
            refine rsn 3 (t := (25, [(7, .int ((y11_7 + 1))), (0, .ref 0), (1, .long x1), (3, .int x3), (4, .int x4), (6, .int y11_6)], [])) rfl ?_
            exact rsub [(0, .ref 0), (1, .long x1), (3, .int x3), (4, .int x4), (6, .int y11_6), (7, .int ((y11_7 + 1)))] ⟨rfl, ⟨rfl, ⟨rfl, ⟨rfl, ⟨rfl, ⟨rfl, trivial⟩⟩⟩⟩⟩⟩ ⟨rfl, ⟨rfl, ⟨rfl, ⟨rfl, ⟨rfl, ⟨rfl, trivial⟩⟩⟩⟩⟩⟩ (ih25 y11_6 ((y11_7 + 1)) h)
          · rw [if_neg c14] at h
            refine rjt (a := (43, [(0, .ref 0), (1, .long x1), (3, .int x3), (4, .int x4), (6, .int y11_6), (7, .int y11_7)], [])) (b := (40, [(0, .ref 0), (1, .long x1), (3, .int x3), (4, .int x4), (6, .int y11_6), (7, .int y11_7)], [])) rfl rfl c14 ?_
            refine rsn 2 (t := (46, [(0, .ref 0), (1, .long x1), (3, .int x3), (4, .int x4), (6, .int y11_6), (7, .int y11_7)], [.int ((-1)), .int y11_6])) rfl ?_
            by_cases c15 : y11_6 = ((-1))
            · rw [if_pos c15] at h
              refine rjt (a := (74, [(0, .ref 0), (1, .long x1), (3, .int x3), (4, .int x4), (6, .int y11_6), (7, .int y11_7)], [])) (b := (49, [(0, .ref 0), (1, .long x1), (3, .int x3), (4, .int x4), (6, .int y11_6), (7, .int y11_7)], [])) rfl rfl c15 ?_
              refine rsn 4 (t := (25, [(7, .int ((y11_7 + 1))), (6, .int y11_7), (0, .ref 0), (1, .long x1), (3, .int x3), (4, .int x4)], [])) rfl ?_
              exact rsub [(0, .ref 0), (1, .long x1), (3, .int x3), (4, .int x4), (6, .int y11_7), (7, .int ((y11_7 + 1)))] ⟨rfl, ⟨rfl, ⟨rfl, ⟨rfl, ⟨rfl, ⟨rfl, trivial⟩⟩⟩⟩⟩⟩ ⟨rfl, ⟨rfl, ⟨rfl, ⟨rfl, ⟨rfl, ⟨rfl, trivial⟩⟩⟩⟩⟩⟩ (ih25 y11_7 ((y11_7 + 1)) h)
            · rw [if_neg c15] at h
              refine rjf (a := (74, [(0, .ref 0), (1, .long x1), (3, .int x3), (4, .int x4), (6, .int y11_6), (7, .int y11_7)], [])) (b := (49, [(0, .ref 0), (1, .long x1), (3, .int x3), (4, .int x4), (6, .int y11_6), (7, .int y11_7)], [])) rfl rfl c15 ?_
              refine rsn 7 (t := (59, [(0, .ref 0), (1, .long x1), (3, .int x3), (4, .int x4), (6, .int y11_6), (7, .int y11_7)], [.int 3, .int x4, .int x3, .int y11_6, .int y11_7, .long x1, .ref 0])) rfl ?_
              by_cases c16 : x4 = 3
              · rw [if_pos c16] at h
                refine rjf (a := (66, [(0, .ref 0), (1, .long x1), (3, .int x3), (4, .int x4), (6, .int y11_6), (7, .int y11_7)], [.int x3, .int y11_6, .int y11_7, .long x1, .ref 0])) (b := (62, [(0, .ref 0), (1, .long x1), (3, .int x3), (4, .int x4), (6, .int y11_6), (7, .int y11_7)], [.int x3, .int y11_6, .int y11_7, .long x1, .ref 0])) rfl rfl (fun q => q c16) ?_
                refine rsn 2 (t := (68, [(0, .ref 0), (1, .long x1), (3, .int x3), (4, .int x4), (6, .int y11_6), (7, .int y11_7)], [.int 0, .int x3, .int y11_6, .int y11_7, .long x1, .ref 0])) rfl ?_
                obtain ⟨r19, g19, h⟩ := b1_some h
                refine rcV 210 0 [.long x1, .int y11_7, .int y11_6, .int x3, .int 0] rfl rfl rfl (hSh.k 0 rfl _) (Nat.le_of_ble_eq_true rfl) rfl (e_Mo_isBefore N (by omega) hSh g19) ?_
                show RN xs L al (Ev xs L al d) 209 71 [(0, .ref 0), (1, .long x1), (3, .int x3), (4, .int x4), (6, .int y11_6), (7, .int y11_7)] [.int r19] (m, S) (some (.int r0)) (m, S)
                by_cases c20 : r19 = 0
                · rw [if_pos c20] at h
                  refine rjt (a := (78, [(0, .ref 0), (1, .long x1), (3, .int x3), (4, .int x4), (6, .int y11_6), (7, .int y11_7)], [])) (b := (74, [(0, .ref 0), (1, .long x1), (3, .int x3), (4, .int x4), (6, .int y11_6), (7, .int y11_7)], [])) rfl rfl c20 ?_
                  refine rsn 2 (t := (25, [(7, .int ((y11_7 + 1))), (0, .ref 0), (1, .long x1), (3, .int x3), (4, .int x4), (6, .int y11_6)], [])) rfl ?_
                  exact rsub [(0, .ref 0), (1, .long x1), (3, .int x3), (4, .int x4), (6, .int y11_6), (7, .int ((y11_7 + 1)))] ⟨rfl, ⟨rfl, ⟨rfl, ⟨rfl, ⟨rfl, ⟨rfl, trivial⟩⟩⟩⟩⟩⟩ ⟨rfl, ⟨rfl, ⟨rfl, ⟨rfl, ⟨rfl, ⟨rfl, trivial⟩⟩⟩⟩⟩⟩ (ih25 y11_6 ((y11_7 + 1)) h)
                · rw [if_neg c20] at h
                  refine rjf (a := (78, [(0, .ref 0), (1, .long x1), (3, .int x3), (4, .int x4), (6, .int y11_6), (7, .int y11_7)], [])) (b := (74, [(0, .ref 0), (1, .long x1), (3, .int x3), (4, .int x4), (6, .int y11_6), (7, .int y11_7)], [])) rfl rfl c20 ?_
                  refine rsn 4 (t := (25, [(7, .int ((y11_7 + 1))), (6, .int y11_7), (0, .ref 0), (1, .long x1), (3, .int x3), (4, .int x4)], [])) rfl ?_
                  exact rsub [(0, .ref 0), (1, .long x1), (3, .int x3), (4, .int x4), (6, .int y11_7), (7, .int ((y11_7 + 1)))] ⟨rfl, ⟨rfl, ⟨rfl, ⟨rfl, ⟨rfl, ⟨rfl, trivial⟩⟩⟩⟩⟩⟩ ⟨rfl, ⟨rfl, ⟨rfl, ⟨rfl, ⟨rfl, ⟨rfl, trivial⟩⟩⟩⟩⟩⟩ (ih25 y11_7 ((y11_7 + 1)) h)
              · rw [if_neg c16] at h
                refine rjt (a := (66, [(0, .ref 0), (1, .long x1), (3, .int x3), (4, .int x4), (6, .int y11_6), (7, .int y11_7)], [.int x3, .int y11_6, .int y11_7, .long x1, .ref 0])) (b := (62, [(0, .ref 0), (1, .long x1), (3, .int x3), (4, .int x4), (6, .int y11_6), (7, .int y11_7)], [.int x3, .int y11_6, .int y11_7, .long x1, .ref 0])) rfl rfl c16 ?_
                refine rsn 1 (t := (68, [(0, .ref 0), (1, .long x1), (3, .int x3), (4, .int x4), (6, .int y11_6), (7, .int y11_7)], [.int x4, .int x3, .int y11_6, .int y11_7, .long x1, .ref 0])) rfl ?_
                obtain ⟨r17, g17, h⟩ := b1_some h
                refine rcV 210 0 [.long x1, .int y11_7, .int y11_6, .int x3, .int x4] rfl rfl rfl (hSh.k 0 rfl _) (Nat.le_of_ble_eq_true rfl) rfl (e_Mo_isBefore N (by omega) hSh g17) ?_
                show RN xs L al (Ev xs L al d) 209 71 [(0, .ref 0), (1, .long x1), (3, .int x3), (4, .int x4), (6, .int y11_6), (7, .int y11_7)] [.int r17] (m, S) (some (.int r0)) (m, S)
                by_cases c18 : r17 = 0
                · rw [if_pos c18] at h
                  refine rjt (a := (78, [(0, .ref 0), (1, .long x1), (3, .int x3), (4, .int x4), (6, .int y11_6), (7, .int y11_7)], [])) (b := (74, [(0, .ref 0), (1, .long x1), (3, .int x3), (4, .int x4), (6, .int y11_6), (7, .int y11_7)], [])) rfl rfl c18 ?_
                  refine rsn 2 (t := (25, [(7, .int ((y11_7 + 1))), (0, .ref 0), (1, .long x1), (3, .int x3), (4, .int x4), (6, .int y11_6)], [])) rfl ?_
                  exact rsub [(0, .ref 0), (1, .long x1), (3, .int x3), (4, .int x4), (6, .int y11_6), (7, .int ((y11_7 + 1)))] ⟨rfl, ⟨rfl, ⟨rfl, ⟨rfl, ⟨rfl, ⟨rfl, trivial⟩⟩⟩⟩⟩⟩ ⟨rfl, ⟨rfl, ⟨rfl, ⟨rfl, ⟨rfl, ⟨rfl, trivial⟩⟩⟩⟩⟩⟩ (ih25 y11_6 ((y11_7 + 1)) h)
                · rw [if_neg c18] at h
                  refine rjf (a := (78, [(0, .ref 0), (1, .long x1), (3, .int x3), (4, .int x4), (6, .int y11_6), (7, .int y11_7)], [])) (b := (74, [(0, .ref 0), (1, .long x1), (3, .int x3), (4, .int x4), (6, .int y11_6), (7, .int y11_7)], [])) rfl rfl c18 ?_
                  refine rsn 4 (t := (25, [(7, .int ((y11_7 + 1))), (6, .int y11_7), (0, .ref 0), (1, .long x1), (3, .int x3), (4, .int x4)], [])) rfl ?_
                  exact rsub [(0, .ref 0), (1, .long x1), (3, .int x3), (4, .int x4), (6, .int y11_7), (7, .int ((y11_7 + 1)))] ⟨rfl, ⟨rfl, ⟨rfl, ⟨rfl, ⟨rfl, ⟨rfl, trivial⟩⟩⟩⟩⟩⟩ ⟨rfl, ⟨rfl, ⟨rfl, ⟨rfl, ⟨rfl, ⟨rfl, trivial⟩⟩⟩⟩⟩⟩ (ih25 y11_7 ((y11_7 + 1)) h)
    exact rsub [(0, .ref 0), (1, .long x1), (3, .int x3), (4, .int x4), (6, .int ((-1))), (7, .int 0)] ⟨rfl, ⟨rfl, ⟨rfl, ⟨rfl, ⟨rfl, ⟨rfl, trivial⟩⟩⟩⟩⟩⟩ ⟨rfl, ⟨rfl, ⟨rfl, ⟨rfl, ⟨rfl, ⟨rfl, trivial⟩⟩⟩⟩⟩⟩ (lp25 N ((-1)) 0 h)
  rw [jn] at h
  try dsimp only at h
  by_cases c21 : x4 = 3
  · rw [if_pos c21] at h
    refine rjf (a := (19, [(0, .ref 0), (1, .long x1), (3, .int x3), (4, .int x4), (5, .int x5)], [])) (b := (6, [(0, .ref 0), (1, .long x1), (3, .int x3), (4, .int x4), (5, .int x5)], [])) rfl rfl (fun q => q c21) ?_
    refine rsn 1 (t := (7, [(0, .ref 0), (1, .long x1), (3, .int x3), (4, .int x4), (5, .int x5)], [.long x1])) rfl ?_
    obtain ⟨r22, g22, h⟩ := b1_some h
    refine rcS 181 [.long x1] rfl rfl rfl (Nat.le_of_ble_eq_true rfl) rfl (e_Mo_held N (by omega) g22) ?_
    show RN xs L al (Ev xs L al d) 209 10 [(0, .ref 0), (1, .long x1), (3, .int x3), (4, .int x4), (5, .int x5)] [.int r22] (m, S) (some (.int r0)) (m, S)
    refine rsn 1 (t := (11, [(0, .ref 0), (1, .long x1), (3, .int x3), (4, .int x4), (5, .int x5)], [.ref 0, .int r22])) rfl ?_
    refine pgI rfl rfl rfl (hSh.k 0 rfl _) ?_
    show RN xs L al (Ev xs L al d) 209 14 [(0, .ref 0), (1, .long x1), (3, .int x3), (4, .int x4), (5, .int x5)] [.int ((mI m 0 21)), .int r22] (m, S) (some (.int r0)) (m, S)
    by_cases c23 : ((mI m 0 21)) ≤ r22
    · rw [if_pos c23] at h
      refine rjt (a := (19, [(0, .ref 0), (1, .long x1), (3, .int x3), (4, .int x4), (5, .int x5)], [])) (b := (17, [(0, .ref 0), (1, .long x1), (3, .int x3), (4, .int x4), (5, .int x5)], [])) rfl rfl c23 ?_
      exact rsub [(0, .ref 0), (1, .long x1), (3, .int x3), (4, .int x4)] ⟨rfl, ⟨rfl, ⟨rfl, ⟨rfl, trivial⟩⟩⟩⟩ ⟨rfl, ⟨rfl, ⟨rfl, ⟨rfl, trivial⟩⟩⟩⟩ (jp19 () h)
    · rw [if_neg c23] at h
      refine rjf (a := (19, [(0, .ref 0), (1, .long x1), (3, .int x3), (4, .int x4), (5, .int x5)], [])) (b := (17, [(0, .ref 0), (1, .long x1), (3, .int x3), (4, .int x4), (5, .int x5)], [])) rfl rfl c23 ?_
      refine rsn 1 (t := (18, [(0, .ref 0), (1, .long x1), (3, .int x3), (4, .int x4), (5, .int x5)], [.int 3])) rfl ?_
      cases h
      exact rret rfl ⟨rfl, rfl, _, _, rfl, rfl, rfl, rfl⟩
  · rw [if_neg c21] at h
    refine rjt (a := (19, [(0, .ref 0), (1, .long x1), (3, .int x3), (4, .int x4), (5, .int x5)], [])) (b := (6, [(0, .ref 0), (1, .long x1), (3, .int x3), (4, .int x4), (5, .int x5)], [])) rfl rfl c21 ?_
    exact rsub [(0, .ref 0), (1, .long x1), (3, .int x3), (4, .int x4)] ⟨rfl, ⟨rfl, ⟨rfl, ⟨rfl, trivial⟩⟩⟩⟩ ⟨rfl, ⟨rfl, ⟨rfl, ⟨rfl, trivial⟩⟩⟩⟩ (jp19 () h)
def f_Mo_fare_L108 (N : Nat) (x1 : Int32) (x2 : Int32) (x3 : Int32) (x4 : Int32) (x5 : Int32) (x7 : Int32) (k108 : Int32 → Int32 → Mm → Option (Int32 × Mm)) : Nat → Int32 → Int32 → Mm → Option (Int32 × Mm)
  | 0, _, _, _ => none
  | n108 + 1, x6, x8, m => ck (ix ((((mI m 0 24)) + x5)) 6) ((if ((mX m 8 (((((mI m 0 24)) + x5)).toNatClampNeg))) ≤ x8 then k108 x6 x8 m else ck (ix x7 729) (b1 (f_Mo_altOf N ((((mI m 0 24)) + x5)) x8 1 m) fun r15 => b1 (f_Mo_altOf N ((((mI m 0 24)) + x5)) x8 2 m) fun r16 => (jn (fun (s17 : Int64) => ck (ix x6 729) (ck (ix x7 729) (b1 (f_Mo_altOf N ((((mI m 0 24)) + x5)) x8 0 (vY m 23 x6.toNatClampNeg s17)) fun r20 => ck (ix x6 729) (f_Mo_fare_L108 N x1 x2 x3 x4 x5 x7 k108 n108 ((x6 + 1)) ((x8 + 1)) ((vY (vY m 23 x6.toNatClampNeg s17) 25 x6.toNatClampNeg ((((mYy m 24 x7.toNatClampNeg)) * r20.toInt64)))))))) (fun j243 => if r15 = 1 then j243 ((((mYy m 22 x7.toNatClampNeg)) ||| ((lsl 1 ((36 + r16)))))) else (if r15 = 2 then j243 ((mYy m 22 x7.toNatClampNeg)) else (if x1 = 4 then b1 (f_Mo_given N ((mYy m 22 x7.toNatClampNeg)) x5 x8 ((mI m 0 21)) m) fun r27 => j243 r27 else b1 (f_Mo_goesTo N ((mYy m 22 x7.toNatClampNeg)) r16 x1 x5 m) fun r25 => b1 (f_Mo_one N r25 r16) fun r26 => j243 ((((mYy m 22 x7.toNatClampNeg)) + r26)))))))))
def f_Mo_fare_L98 (N : Nat) (x1 : Int32) (x2 : Int32) (x3 : Int32) (x4 : Int32) (x5 : Int32) (k98 : Int32 → Int32 → Mm → Option (Int32 × Mm)) : Nat → Int32 → Int32 → Mm → Option (Int32 × Mm)
  | 0, _, _, _ => none
  | n98 + 1, x6, x7, m => (if x4 ≤ x7 then k98 x6 x7 m else f_Mo_fare_L108 N x1 x2 x3 x4 x5 x7 (fun (z28_6 : Int32) (z28_8 : Int32) (m28 : Mm) => f_Mo_fare_L98 N x1 x2 x3 x4 x5 k98 n98 z28_6 ((x7 + 1)) m28) N x6 0 m)
def f_Mo_fare_L292 (N : Nat) (x1 : Int32) (x2 : Int32) (x3 : Int32) (x5 : Int32) (x6 : Int32) (k292 : Int32 → Mm → Option (Int32 × Mm)) : Nat → Int32 → Mm → Option (Int32 × Mm)
  | 0, _, _ => none
  | n292 + 1, x7, m => (if x6 ≤ x7 then k292 x7 m else ck (ix x7 729) (ck (ix x7 729) (ck (ix x7 729) (ck (ix x7 729) (f_Mo_fare_L292 N x1 x2 x3 x5 x6 k292 n292 ((x7 + 1)) ((vY (vY m 22 x7.toNatClampNeg ((mYy m 23 x7.toNatClampNeg))) 24 x7.toNatClampNeg ((mYy m 25 x7.toNatClampNeg)))))))))
def f_Mo_fare_L78 (N : Nat) (x1 : Int32) (x2 : Int32) (x3 : Int32) (k78 : Int32 → Int32 → Mm → Option (Int32 × Mm)) : Nat → Int32 → Int32 → Mm → Option (Int32 × Mm)
  | 0, _, _, _ => none
  | n78 + 1, x4, x5, m => (if ((((mI m 0 18)) - ((mI m 0 24)))) ≤ x5 then k78 x4 x5 m else f_Mo_fare_L98 N x1 x2 x3 x4 x5 (fun (z46_6 : Int32) (z46_7 : Int32) (m46 : Mm) => f_Mo_fare_L292 N x1 x2 x3 x5 z46_6 (fun (z52_7 : Int32) (m52 : Mm) => f_Mo_fare_L78 N x1 x2 x3 k78 n78 z46_6 ((x5 + 1)) m52) N 0 m46) N 0 0 m)
def f_Mo_fare_L349 (N : Nat) (x2 : Int32) (x3 : Int32) (x4 : Int32) (k349 : Int64 → Int32 → Mm → Option (Int32 × Mm)) : Nat → Int64 → Int32 → Mm → Option (Int32 × Mm)
  | 0, _, _, _ => none
  | n349 + 1, x5, x7, m => (if x4 ≤ x7 then k349 x5 x7 m else ck (ix x7 729) (b2 (f_Mo_ends N ((mYy m 22 x7.toNatClampNeg)) x2 ((mI m 0 22)) m) fun r98 m98 => (if x3 = 0 then (if x7 = 0 then f_Mo_fare_L349 N x2 x3 x4 k349 n349 r98.toInt64 ((x7 + 1)) m98 else (if x5 ≤ r98.toInt64 then f_Mo_fare_L349 N x2 x3 x4 k349 n349 x5 ((x7 + 1)) m98 else f_Mo_fare_L349 N x2 x3 x4 k349 n349 r98.toInt64 ((x7 + 1)) m98)) else ck (ix x7 729) (f_Mo_fare_L349 N x2 x3 x4 k349 n349 ((x5 + ((r98.toInt64 * ((mYy m98 24 x7.toNatClampNeg)))))) ((x7 + 1)) m98))))
def f_Mo_fare (N : Nat) (x1 : Int32) (x2 : Int32) (x3 : Int32) (m : Mm) : Option (Int32 × Mm) := (if ((mI m 0 15)) = 0 then some ((-2147483648), m) else b1 (f_Mo_isGoal N x2) fun r2 => (if r2 = 0 then some ((-2147483648), m) else b1 (f_Mo_in N x1 0 4) fun r4 => (if r4 = 0 then some ((-2147483648), m) else (if ((mI m 0 25)) = ((-1)) then (jn (fun (m7 : Mm) => ck (ix (0 : Int32) 729) (ck (ix (0 : Int32) 729) (f_Mo_fare_L78 N x1 x2 x3 (fun (z95_4 : Int32) (z95_5 : Int32) (m95 : Mm) => f_Mo_fare_L349 N x2 x3 z95_4 (fun (z103_5 : Int64) (z103_7 : Int32) (m103 : Mm) => b1 (f_Mo_told N z103_5 x3 m103) fun r104 => some (r104, m103)) N 0 0 m95) N 1 0 (vY (vY m7 22 ((0 : Int32).toNatClampNeg) ((mJ m7 0 23))) 24 ((0 : Int32).toNatClampNeg) 1)))) (fun j55 => if x1 = 4 then b2 (f_Mo_solved N 0 0 ((mI m 0 21)) ((mI m 0 22)) m) fun r200 m200 => j55 m200 else j55 m)) else some ((-2147483648), m)))))
set_option maxRecDepth 20000 in
set_option maxHeartbeats 4000000 in
theorem e_Mo_fare {xs : Nat → Int32} {L : Nat} {al : Bool} (N : Nat) {d : Nat} (hd : 9 ≤ d) {S : St} (hSh : ShR S) {x1 : Int32} {x2 : Int32} {x3 : Int32} {m : Mm} {r0 : Int32} {mf : Mm} (h : f_Mo_fare N x1 x2 x3 m = some (r0, mf)) : Ev xs L al d 208 [.ref 0, .int x1, .int x2, .int x3] (m, S) (some (.int r0)) (mf, S) := by
  obtain ⟨d, rfl⟩ : ∃ e, d = e + 1 := ⟨d - 1, by omega⟩
  refine ev_of (by decide) (Nat.le_of_ble_eq_true rfl) ?_
  rw [f_Mo_fare] at h
  show RN xs L al (Ev xs L al d) 208 0 [(0, .ref 0), (1, .int x1), (2, .int x2), (3, .int x3)] [] (m, S) (some (.int r0)) (mf, S)
  refine rsn 1 (t := (1, [(0, .ref 0), (1, .int x1), (2, .int x2), (3, .int x3)], [.ref 0])) rfl ?_
  refine pgI rfl rfl rfl (hSh.k 0 rfl _) ?_
  show RN xs L al (Ev xs L al d) 208 4 [(0, .ref 0), (1, .int x1), (2, .int x2), (3, .int x3)] [.int ((mI m 0 15))] (m, S) (some (.int r0)) (mf, S)
  by_cases c1 : ((mI m 0 15)) = 0
  · rw [if_pos c1] at h
    refine rjt (a := (31, [(0, .ref 0), (1, .int x1), (2, .int x2), (3, .int x3)], [])) (b := (7, [(0, .ref 0), (1, .int x1), (2, .int x2), (3, .int x3)], [])) rfl rfl c1 ?_
    refine rsn 1 (t := (34, [(0, .ref 0), (1, .int x1), (2, .int x2), (3, .int x3)], [.int ((-2147483648))])) rfl ?_
    cases h
    exact rret rfl ⟨rfl, rfl, _, _, rfl, rfl, rfl, rfl⟩
  · rw [if_neg c1] at h
    refine rjf (a := (31, [(0, .ref 0), (1, .int x1), (2, .int x2), (3, .int x3)], [])) (b := (7, [(0, .ref 0), (1, .int x1), (2, .int x2), (3, .int x3)], [])) rfl rfl c1 ?_
    refine rsn 1 (t := (8, [(0, .ref 0), (1, .int x1), (2, .int x2), (3, .int x3)], [.int x2])) rfl ?_
    obtain ⟨r2, g2, h⟩ := b1_some h
    refine rcS 184 [.int x2] rfl rfl rfl (Nat.le_of_ble_eq_true rfl) rfl (e_Mo_isGoal N (by omega) g2) ?_
    show RN xs L al (Ev xs L al d) 208 11 [(0, .ref 0), (1, .int x1), (2, .int x2), (3, .int x3)] [.int r2] (m, S) (some (.int r0)) (mf, S)
    by_cases c3 : r2 = 0
    · rw [if_pos c3] at h
      refine rjt (a := (31, [(0, .ref 0), (1, .int x1), (2, .int x2), (3, .int x3)], [])) (b := (14, [(0, .ref 0), (1, .int x1), (2, .int x2), (3, .int x3)], [])) rfl rfl c3 ?_
      refine rsn 1 (t := (34, [(0, .ref 0), (1, .int x1), (2, .int x2), (3, .int x3)], [.int ((-2147483648))])) rfl ?_
      cases h
      exact rret rfl ⟨rfl, rfl, _, _, rfl, rfl, rfl, rfl⟩
    · rw [if_neg c3] at h
      refine rjf (a := (31, [(0, .ref 0), (1, .int x1), (2, .int x2), (3, .int x3)], [])) (b := (14, [(0, .ref 0), (1, .int x1), (2, .int x2), (3, .int x3)], [])) rfl rfl c3 ?_
      refine rsn 3 (t := (17, [(0, .ref 0), (1, .int x1), (2, .int x2), (3, .int x3)], [.int 4, .int 0, .int x1])) rfl ?_
      obtain ⟨r4, g4, h⟩ := b1_some h
      refine rcS 146 [.int x1, .int 0, .int 4] rfl rfl rfl (Nat.le_of_ble_eq_true rfl) rfl (e_Mo_in N (by omega) g4) ?_
      show RN xs L al (Ev xs L al d) 208 20 [(0, .ref 0), (1, .int x1), (2, .int x2), (3, .int x3)] [.int r4] (m, S) (some (.int r0)) (mf, S)
      by_cases c5 : r4 = 0
      · rw [if_pos c5] at h
        refine rjt (a := (31, [(0, .ref 0), (1, .int x1), (2, .int x2), (3, .int x3)], [])) (b := (23, [(0, .ref 0), (1, .int x1), (2, .int x2), (3, .int x3)], [])) rfl rfl c5 ?_
        refine rsn 1 (t := (34, [(0, .ref 0), (1, .int x1), (2, .int x2), (3, .int x3)], [.int ((-2147483648))])) rfl ?_
        cases h
        exact rret rfl ⟨rfl, rfl, _, _, rfl, rfl, rfl, rfl⟩
      · rw [if_neg c5] at h
        refine rjf (a := (31, [(0, .ref 0), (1, .int x1), (2, .int x2), (3, .int x3)], [])) (b := (23, [(0, .ref 0), (1, .int x1), (2, .int x2), (3, .int x3)], [])) rfl rfl c5 ?_
        refine rsn 1 (t := (24, [(0, .ref 0), (1, .int x1), (2, .int x2), (3, .int x3)], [.ref 0])) rfl ?_
        refine pgI rfl rfl rfl (hSh.k 0 rfl _) ?_
        show RN xs L al (Ev xs L al d) 208 27 [(0, .ref 0), (1, .int x1), (2, .int x2), (3, .int x3)] [.int ((mI m 0 25))] (m, S) (some (.int r0)) (mf, S)
        refine rsn 1 (t := (28, [(0, .ref 0), (1, .int x1), (2, .int x2), (3, .int x3)], [.int ((-1)), .int ((mI m 0 25))])) rfl ?_
        by_cases c6 : ((mI m 0 25)) = ((-1))
        · rw [if_pos c6] at h
          refine rjt (a := (35, [(0, .ref 0), (1, .int x1), (2, .int x2), (3, .int x3)], [])) (b := (31, [(0, .ref 0), (1, .int x1), (2, .int x2), (3, .int x3)], [])) rfl rfl c6 ?_
          refine rsn 2 (t := (37, [(0, .ref 0), (1, .int x1), (2, .int x2), (3, .int x3)], [.int 4, .int x1])) rfl ?_
          have jp55 : ∀ (m7 : Mm), (ck (ix (0 : Int32) 729) (ck (ix (0 : Int32) 729) (f_Mo_fare_L78 N x1 x2 x3 (fun (z95_4 : Int32) (z95_5 : Int32) (m95 : Mm) => f_Mo_fare_L349 N x2 x3 z95_4 (fun (z103_5 : Int64) (z103_7 : Int32) (m103 : Mm) => b1 (f_Mo_told N z103_5 x3 m103) fun r104 => some (r104, m103)) N 0 0 m95) N 1 0 (vY (vY m7 22 ((0 : Int32).toNatClampNeg) ((mJ m7 0 23))) 24 ((0 : Int32).toNatClampNeg) 1)))) = some (r0, mf) → RN xs L al (Ev xs L al d) 208 55 [(0, .ref 0), (1, .int x1), (2, .int x2), (3, .int x3)] [] (m7, S) (some (.int r0)) (mf, S) := by
            intro m7 h
            try dsimp only at h
            refine rsn 3 (t := (59, [(4, .int 1), (0, .ref 0), (1, .int x1), (2, .int x2), (3, .int x3)], [.ref 0])) rfl ?_
            refine rgR rfl rfl rfl (hSh.k 0 rfl _) (hSh.r 21 rfl _) ?_
            refine rsn 2 (t := (64, [(4, .int 1), (0, .ref 0), (1, .int x1), (2, .int x2), (3, .int x3)], [.ref 0, .int 0, .ref 22])) rfl ?_
            refine pgJ rfl rfl rfl (hSh.k 0 rfl _) ?_
            show RN xs L al (Ev xs L al d) 208 67 [(4, .int 1), (0, .ref 0), (1, .int x1), (2, .int x2), (3, .int x3)] [.long ((mJ m7 0 23)), .int 0, .ref 22] (m7, S) (some (.int r0)) (mf, S)
            obtain ⟨c8, h⟩ := ck_some h
            refine psJ rfl (hSh.k 22 rfl _) (hSh.l 21 rfl _) c8 ?_
            refine rsn 1 (t := (69, [(4, .int 1), (0, .ref 0), (1, .int x1), (2, .int x2), (3, .int x3)], [.ref 0])) rfl ?_
            refine rgR rfl rfl rfl (hSh.k 0 rfl _) (hSh.r 23 rfl _) ?_
            refine rsn 2 (t := (74, [(4, .int 1), (0, .ref 0), (1, .int x1), (2, .int x2), (3, .int x3)], [.long 1, .int 0, .ref 24])) rfl ?_
            obtain ⟨c9, h⟩ := ck_some h
            refine psJ rfl (hSh.k 24 rfl _) (hSh.l 23 rfl _) c9 ?_
            refine rsn 2 (t := (78, [(5, .int 0), (4, .int 1), (0, .ref 0), (1, .int x1), (2, .int x2), (3, .int x3)], [])) rfl ?_
            have ex78 : ∀ (z95_4 : Int32) (z95_5 : Int32) (m95 : Mm), (f_Mo_fare_L349 N x2 x3 z95_4 (fun (z103_5 : Int64) (z103_7 : Int32) (m103 : Mm) => b1 (f_Mo_told N z103_5 x3 m103) fun r104 => some (r104, m103)) N 0 0 m95) = some (r0, mf) → RN xs L al (Ev xs L al d) 208 343 [(0, .ref 0), (2, .int x2), (3, .int x3), (4, .int z95_4)] [] (m95, S) (some (.int r0)) (mf, S) := by
              intro z95_4 z95_5 m95 h
              try dsimp only at h
              refine rsn 4 (t := (349, [(7, .int 0), (5, .long 0), (0, .ref 0), (2, .int x2), (3, .int x3), (4, .int z95_4)], [])) rfl ?_
              have ex349 : ∀ (z103_5 : Int64) (z103_7 : Int32) (m103 : Mm), (b1 (f_Mo_told N z103_5 x3 m103) fun r104 => some (r104, m103)) = some (r0, mf) → RN xs L al (Ev xs L al d) 208 427 [(0, .ref 0), (3, .int x3), (5, .long z103_5)] [] (m103, S) (some (.int r0)) (mf, S) := by
                intro z103_5 z103_7 m103 h
                try dsimp only at h
                refine rsn 3 (t := (431, [(0, .ref 0), (3, .int x3), (5, .long z103_5)], [.int x3, .long z103_5, .ref 0])) rfl ?_
                obtain ⟨r104, g104, h⟩ := b1_some h
                refine rcV 200 0 [.long z103_5, .int x3] rfl rfl rfl (hSh.k 0 rfl _) (Nat.le_of_ble_eq_true rfl) rfl (e_Mo_told N (by omega) hSh g104) ?_
                show RN xs L al (Ev xs L al d) 208 434 [(0, .ref 0), (3, .int x3), (5, .long z103_5)] [.int r104] (m103, S) (some (.int r0)) (mf, S)
                cases h
                exact rret rfl ⟨rfl, rfl, _, _, rfl, rfl, rfl, rfl⟩
              have lp349 : ∀ (n : Nat) (y105_5 : Int64) (y105_7 : Int32) (m105 : Mm), (f_Mo_fare_L349 N x2 x3 z95_4 (fun (z103_5 : Int64) (z103_7 : Int32) (m103 : Mm) => b1 (f_Mo_told N z103_5 x3 m103) fun r104 => some (r104, m103)) n y105_5 y105_7 m105) = some (r0, mf) → RN xs L al (Ev xs L al d) 208 349 [(0, .ref 0), (2, .int x2), (3, .int x3), (4, .int z95_4), (5, .long y105_5), (7, .int y105_7)] [] (m105, S) (some (.int r0)) (mf, S) := by
                intro n
                induction n with
                | zero => intro y105_5 y105_7 m105 h; exact absurd h (by simp [f_Mo_fare_L349])
                | succ n349 ih349 =>
                  intro y105_5 y105_7 m105 h
                  try dsimp only at h
                  rw [f_Mo_fare_L349] at h
                  try dsimp only at h
                  refine rsn 2 (t := (353, [(0, .ref 0), (2, .int x2), (3, .int x3), (4, .int z95_4), (5, .long y105_5), (7, .int y105_7)], [.int z95_4, .int y105_7])) rfl ?_
                  by_cases c106 : z95_4 ≤ y105_7
                  · rw [if_pos c106] at h
                    refine rjt (a := (427, [(0, .ref 0), (2, .int x2), (3, .int x3), (4, .int z95_4), (5, .long y105_5), (7, .int y105_7)], [])) (b := (356, [(0, .ref 0), (2, .int x2), (3, .int x3), (4, .int z95_4), (5, .long y105_5), (7, .int y105_7)], [])) rfl rfl c106 ?_
                    exact rsub [(0, .ref 0), (3, .int x3), (5, .long y105_5)] ⟨rfl, ⟨rfl, ⟨rfl, trivial⟩⟩⟩ ⟨rfl, ⟨rfl, ⟨rfl, trivial⟩⟩⟩ (ex349 y105_5 y105_7 m105 h)
                  · rw [if_neg c106] at h
                    refine rjf (a := (427, [(0, .ref 0), (2, .int x2), (3, .int x3), (4, .int z95_4), (5, .long y105_5), (7, .int y105_7)], [])) (b := (356, [(0, .ref 0), (2, .int x2), (3, .int x3), (4, .int z95_4), (5, .long y105_5), (7, .int y105_7)], [])) rfl rfl c106 ?_
                    refine rsn 2 (t := (358, [(0, .ref 0), (2, .int x2), (3, .int x3), (4, .int z95_4), (5, .long y105_5), (7, .int y105_7)], [.ref 0, .ref 0])) rfl ?_
                    refine rgR rfl rfl rfl (hSh.k 0 rfl _) (hSh.r 21 rfl _) ?_
                    refine rsn 1 (t := (363, [(0, .ref 0), (2, .int x2), (3, .int x3), (4, .int z95_4), (5, .long y105_5), (7, .int y105_7)], [.int y105_7, .ref 22, .ref 0])) rfl ?_
                    obtain ⟨c107, h⟩ := ck_some h
                    refine pxJ rfl (hSh.k 22 rfl _) (hSh.l 21 rfl _) c107 ?_
                    show RN xs L al (Ev xs L al d) 208 364 [(0, .ref 0), (2, .int x2), (3, .int x3), (4, .int z95_4), (5, .long y105_5), (7, .int y105_7)] [.long ((mYy m105 22 y105_7.toNatClampNeg)), .ref 0] (m105, S) (some (.int r0)) (mf, S)
                    refine rsn 2 (t := (366, [(0, .ref 0), (2, .int x2), (3, .int x3), (4, .int z95_4), (5, .long y105_5), (7, .int y105_7)], [.ref 0, .int x2, .long ((mYy m105 22 y105_7.toNatClampNeg)), .ref 0])) rfl ?_
                    refine pgI rfl rfl rfl (hSh.k 0 rfl _) ?_
                    show RN xs L al (Ev xs L al d) 208 369 [(0, .ref 0), (2, .int x2), (3, .int x3), (4, .int z95_4), (5, .long y105_5), (7, .int y105_7)] [.int ((mI m105 0 22)), .int x2, .long ((mYy m105 22 y105_7.toNatClampNeg)), .ref 0] (m105, S) (some (.int r0)) (mf, S)
                    obtain ⟨r108, m108, g108, h⟩ := b2_some h
                    refine rcV 185 0 [.long ((mYy m105 22 y105_7.toNatClampNeg)), .int x2, .int ((mI m105 0 22))] rfl rfl rfl (hSh.k 0 rfl _) (Nat.le_of_ble_eq_true rfl) rfl (e_Mo_ends N (by omega) hSh g108) ?_
                    show RN xs L al (Ev xs L al d) 208 372 [(0, .ref 0), (2, .int x2), (3, .int x3), (4, .int z95_4), (5, .long y105_5), (7, .int y105_7)] [.int r108] (m108, S) (some (.int r0)) (mf, S)
                    refine rsn 2 (t := (375, [(8, .int r108), (0, .ref 0), (2, .int x2), (3, .int x3), (4, .int z95_4), (5, .long y105_5), (7, .int y105_7)], [.int x3])) rfl ?_
                    by_cases c109 : x3 = 0
                    · rw [if_pos c109] at h
                      refine rjt (a := (397, [(8, .int r108), (0, .ref 0), (2, .int x2), (3, .int x3), (4, .int z95_4), (5, .long y105_5), (7, .int y105_7)], [])) (b := (378, [(8, .int r108), (0, .ref 0), (2, .int x2), (3, .int x3), (4, .int z95_4), (5, .long y105_5), (7, .int y105_7)], [])) rfl rfl c109 ?_
                      refine rsn 1 (t := (399, [(8, .int r108), (0, .ref 0), (2, .int x2), (3, .int x3), (4, .int z95_4), (5, .long y105_5), (7, .int y105_7)], [.int y105_7])) rfl ?_
                      by_cases c110 : y105_7 = 0
                      · rw [if_pos c110] at h
                        refine rjt (a := (411, [(8, .int r108), (0, .ref 0), (2, .int x2), (3, .int x3), (4, .int z95_4), (5, .long y105_5), (7, .int y105_7)], [])) (b := (402, [(8, .int r108), (0, .ref 0), (2, .int x2), (3, .int x3), (4, .int z95_4), (5, .long y105_5), (7, .int y105_7)], [])) rfl rfl c110 ?_
                        refine rsn 6 (t := (349, [(7, .int ((y105_7 + 1))), (5, .long r108.toInt64), (8, .int r108), (0, .ref 0), (2, .int x2), (3, .int x3), (4, .int z95_4)], [])) rfl ?_
                        exact rsub [(0, .ref 0), (2, .int x2), (3, .int x3), (4, .int z95_4), (5, .long r108.toInt64), (7, .int ((y105_7 + 1)))] ⟨rfl, ⟨rfl, ⟨rfl, ⟨rfl, ⟨rfl, ⟨rfl, trivial⟩⟩⟩⟩⟩⟩ ⟨rfl, ⟨rfl, ⟨rfl, ⟨rfl, ⟨rfl, ⟨rfl, trivial⟩⟩⟩⟩⟩⟩ (ih349 r108.toInt64 ((y105_7 + 1)) m108 h)
                      · rw [if_neg c110] at h
                        refine rjf (a := (411, [(8, .int r108), (0, .ref 0), (2, .int x2), (3, .int x3), (4, .int z95_4), (5, .long y105_5), (7, .int y105_7)], [])) (b := (402, [(8, .int r108), (0, .ref 0), (2, .int x2), (3, .int x3), (4, .int z95_4), (5, .long y105_5), (7, .int y105_7)], [])) rfl rfl c110 ?_
                        refine rsn 4 (t := (408, [(8, .int r108), (0, .ref 0), (2, .int x2), (3, .int x3), (4, .int z95_4), (5, .long y105_5), (7, .int y105_7)], [.int ((lg_cmp r108.toInt64 y105_5))])) rfl ?_
                        by_cases c111 : y105_5 ≤ r108.toInt64
                        · rw [if_pos c111] at h
                          refine rjt (a := (417, [(8, .int r108), (0, .ref 0), (2, .int x2), (3, .int x3), (4, .int z95_4), (5, .long y105_5), (7, .int y105_7)], [])) (b := (411, [(8, .int r108), (0, .ref 0), (2, .int x2), (3, .int x3), (4, .int z95_4), (5, .long y105_5), (7, .int y105_7)], [])) rfl rfl (lgc_ge.mpr c111) ?_
                          refine rsn 4 (t := (349, [(7, .int ((y105_7 + 1))), (5, .long y105_5), (8, .int r108), (0, .ref 0), (2, .int x2), (3, .int x3), (4, .int z95_4)], [])) rfl ?_
                          exact rsub [(0, .ref 0), (2, .int x2), (3, .int x3), (4, .int z95_4), (5, .long y105_5), (7, .int ((y105_7 + 1)))] ⟨rfl, ⟨rfl, ⟨rfl, ⟨rfl, ⟨rfl, ⟨rfl, trivial⟩⟩⟩⟩⟩⟩ ⟨rfl, ⟨rfl, ⟨rfl, ⟨rfl, ⟨rfl, ⟨rfl, trivial⟩⟩⟩⟩⟩⟩ (ih349 y105_5 ((y105_7 + 1)) m108 h)
                        · rw [if_neg c111] at h
                          refine rjf (a := (417, [(8, .int r108), (0, .ref 0), (2, .int x2), (3, .int x3), (4, .int z95_4), (5, .long y105_5), (7, .int y105_7)], [])) (b := (411, [(8, .int r108), (0, .ref 0), (2, .int x2), (3, .int x3), (4, .int z95_4), (5, .long y105_5), (7, .int y105_7)], [])) rfl rfl (fun q => c111 (lgc_ge.mp q)) ?_
                          refine rsn 6 (t := (349, [(7, .int ((y105_7 + 1))), (5, .long r108.toInt64), (8, .int r108), (0, .ref 0), (2, .int x2), (3, .int x3), (4, .int z95_4)], [])) rfl ?_
                          exact rsub [(0, .ref 0), (2, .int x2), (3, .int x3), (4, .int z95_4), (5, .long r108.toInt64), (7, .int ((y105_7 + 1)))] ⟨rfl, ⟨rfl, ⟨rfl, ⟨rfl, ⟨rfl, ⟨rfl, trivial⟩⟩⟩⟩⟩⟩ ⟨rfl, ⟨rfl, ⟨rfl, ⟨rfl, ⟨rfl, ⟨rfl, trivial⟩⟩⟩⟩⟩⟩ (ih349 r108.toInt64 ((y105_7 + 1)) m108 h)
                    · rw [if_neg c109] at h
                      refine rjf (a := (397, [(8, .int r108), (0, .ref 0), (2, .int x2), (3, .int x3), (4, .int z95_4), (5, .long y105_5), (7, .int y105_7)], [])) (b := (378, [(8, .int r108), (0, .ref 0), (2, .int x2), (3, .int x3), (4, .int z95_4), (5, .long y105_5), (7, .int y105_7)], [])) rfl rfl c109 ?_
                      refine rsn 4 (t := (384, [(8, .int r108), (0, .ref 0), (2, .int x2), (3, .int x3), (4, .int z95_4), (5, .long y105_5), (7, .int y105_7)], [.ref 0, .long r108.toInt64, .long y105_5])) rfl ?_
                      refine rgR rfl rfl rfl (hSh.k 0 rfl _) (hSh.r 23 rfl _) ?_
                      refine rsn 1 (t := (389, [(8, .int r108), (0, .ref 0), (2, .int x2), (3, .int x3), (4, .int z95_4), (5, .long y105_5), (7, .int y105_7)], [.int y105_7, .ref 24, .long r108.toInt64, .long y105_5])) rfl ?_
                      obtain ⟨c112, h⟩ := ck_some h
                      refine pxJ rfl (hSh.k 24 rfl _) (hSh.l 23 rfl _) c112 ?_
                      show RN xs L al (Ev xs L al d) 208 390 [(8, .int r108), (0, .ref 0), (2, .int x2), (3, .int x3), (4, .int z95_4), (5, .long y105_5), (7, .int y105_7)] [.long ((mYy m108 24 y105_7.toNatClampNeg)), .long r108.toInt64, .long y105_5] (m108, S) (some (.int r0)) (mf, S)
                      refine rsn 6 (t := (349, [(7, .int ((y105_7 + 1))), (5, .long ((y105_5 + ((r108.toInt64 * ((mYy m108 24 y105_7.toNatClampNeg))))))), (8, .int r108), (0, .ref 0), (2, .int x2), (3, .int x3), (4, .int z95_4)], [])) rfl ?_
                      exact rsub [(0, .ref 0), (2, .int x2), (3, .int x3), (4, .int z95_4), (5, .long ((y105_5 + ((r108.toInt64 * ((mYy m108 24 y105_7.toNatClampNeg))))))), (7, .int ((y105_7 + 1)))] ⟨rfl, ⟨rfl, ⟨rfl, ⟨rfl, ⟨rfl, ⟨rfl, trivial⟩⟩⟩⟩⟩⟩ ⟨rfl, ⟨rfl, ⟨rfl, ⟨rfl, ⟨rfl, ⟨rfl, trivial⟩⟩⟩⟩⟩⟩ (ih349 ((y105_5 + ((r108.toInt64 * ((mYy m108 24 y105_7.toNatClampNeg)))))) ((y105_7 + 1)) m108 h)
              exact rsub [(0, .ref 0), (2, .int x2), (3, .int x3), (4, .int z95_4), (5, .long 0), (7, .int 0)] ⟨rfl, ⟨rfl, ⟨rfl, ⟨rfl, ⟨rfl, ⟨rfl, trivial⟩⟩⟩⟩⟩⟩ ⟨rfl, ⟨rfl, ⟨rfl, ⟨rfl, ⟨rfl, ⟨rfl, trivial⟩⟩⟩⟩⟩⟩ (lp349 N 0 0 m95 h)
            have lp78 : ∀ (n : Nat) (y113_4 : Int32) (y113_5 : Int32) (m113 : Mm), (f_Mo_fare_L78 N x1 x2 x3 (fun (z95_4 : Int32) (z95_5 : Int32) (m95 : Mm) => f_Mo_fare_L349 N x2 x3 z95_4 (fun (z103_5 : Int64) (z103_7 : Int32) (m103 : Mm) => b1 (f_Mo_told N z103_5 x3 m103) fun r104 => some (r104, m103)) N 0 0 m95) n y113_4 y113_5 m113) = some (r0, mf) → RN xs L al (Ev xs L al d) 208 78 [(0, .ref 0), (1, .int x1), (2, .int x2), (3, .int x3), (4, .int y113_4), (5, .int y113_5)] [] (m113, S) (some (.int r0)) (mf, S) := by
              intro n
              induction n with
              | zero => intro y113_4 y113_5 m113 h; exact absurd h (by simp [f_Mo_fare_L78])
              | succ n78 ih78 =>
                intro y113_4 y113_5 m113 h
                try dsimp only at h
                rw [f_Mo_fare_L78] at h
                try dsimp only at h
                refine rsn 2 (t := (81, [(0, .ref 0), (1, .int x1), (2, .int x2), (3, .int x3), (4, .int y113_4), (5, .int y113_5)], [.ref 0, .int y113_5])) rfl ?_
                refine pgI rfl rfl rfl (hSh.k 0 rfl _) ?_
                show RN xs L al (Ev xs L al d) 208 84 [(0, .ref 0), (1, .int x1), (2, .int x2), (3, .int x3), (4, .int y113_4), (5, .int y113_5)] [.int ((mI m113 0 18)), .int y113_5] (m113, S) (some (.int r0)) (mf, S)
                refine rsn 1 (t := (85, [(0, .ref 0), (1, .int x1), (2, .int x2), (3, .int x3), (4, .int y113_4), (5, .int y113_5)], [.ref 0, .int ((mI m113 0 18)), .int y113_5])) rfl ?_
                refine pgI rfl rfl rfl (hSh.k 0 rfl _) ?_
                show RN xs L al (Ev xs L al d) 208 88 [(0, .ref 0), (1, .int x1), (2, .int x2), (3, .int x3), (4, .int y113_4), (5, .int y113_5)] [.int ((mI m113 0 24)), .int ((mI m113 0 18)), .int y113_5] (m113, S) (some (.int r0)) (mf, S)
                refine rsn 1 (t := (89, [(0, .ref 0), (1, .int x1), (2, .int x2), (3, .int x3), (4, .int y113_4), (5, .int y113_5)], [.int ((((mI m113 0 18)) - ((mI m113 0 24)))), .int y113_5])) rfl ?_
                by_cases c114 : ((((mI m113 0 18)) - ((mI m113 0 24)))) ≤ y113_5
                · rw [if_pos c114] at h
                  refine rjt (a := (343, [(0, .ref 0), (1, .int x1), (2, .int x2), (3, .int x3), (4, .int y113_4), (5, .int y113_5)], [])) (b := (92, [(0, .ref 0), (1, .int x1), (2, .int x2), (3, .int x3), (4, .int y113_4), (5, .int y113_5)], [])) rfl rfl c114 ?_
                  exact rsub [(0, .ref 0), (2, .int x2), (3, .int x3), (4, .int y113_4)] ⟨rfl, ⟨rfl, ⟨rfl, ⟨rfl, trivial⟩⟩⟩⟩ ⟨rfl, ⟨rfl, ⟨rfl, ⟨rfl, trivial⟩⟩⟩⟩ (ex78 y113_4 y113_5 m113 h)
                · rw [if_neg c114] at h
                  refine rjf (a := (343, [(0, .ref 0), (1, .int x1), (2, .int x2), (3, .int x3), (4, .int y113_4), (5, .int y113_5)], [])) (b := (92, [(0, .ref 0), (1, .int x1), (2, .int x2), (3, .int x3), (4, .int y113_4), (5, .int y113_5)], [])) rfl rfl c114 ?_
                  refine rsn 4 (t := (98, [(7, .int 0), (6, .int 0), (0, .ref 0), (1, .int x1), (2, .int x2), (3, .int x3), (4, .int y113_4), (5, .int y113_5)], [])) rfl ?_
                  have ex98 : ∀ (z150_6 : Int32) (z150_7 : Int32) (m150 : Mm), (f_Mo_fare_L292 N x1 x2 x3 y113_5 z150_6 (fun (z156_7 : Int32) (m156 : Mm) => f_Mo_fare_L78 N x1 x2 x3 (fun (z95_4 : Int32) (z95_5 : Int32) (m95 : Mm) => f_Mo_fare_L349 N x2 x3 z95_4 (fun (z103_5 : Int64) (z103_7 : Int32) (m103 : Mm) => b1 (f_Mo_told N z103_5 x3 m103) fun r104 => some (r104, m103)) N 0 0 m95) n78 z150_6 ((y113_5 + 1)) m156) N 0 m150) = some (r0, mf) → RN xs L al (Ev xs L al d) 208 289 [(0, .ref 0), (1, .int x1), (2, .int x2), (3, .int x3), (5, .int y113_5), (6, .int z150_6)] [] (m150, S) (some (.int r0)) (mf, S) := by
                    intro z150_6 z150_7 m150 h
                    try dsimp only at h
                    refine rsn 2 (t := (292, [(7, .int 0), (0, .ref 0), (1, .int x1), (2, .int x2), (3, .int x3), (5, .int y113_5), (6, .int z150_6)], [])) rfl ?_
                    have ex292 : ∀ (z156_7 : Int32) (m156 : Mm), (f_Mo_fare_L78 N x1 x2 x3 (fun (z95_4 : Int32) (z95_5 : Int32) (m95 : Mm) => f_Mo_fare_L349 N x2 x3 z95_4 (fun (z103_5 : Int64) (z103_7 : Int32) (m103 : Mm) => b1 (f_Mo_told N z103_5 x3 m103) fun r104 => some (r104, m103)) N 0 0 m95) n78 z150_6 ((y113_5 + 1)) m156) = some (r0, mf) → RN xs L al (Ev xs L al d) 208 333 [(0, .ref 0), (1, .int x1), (2, .int x2), (3, .int x3), (5, .int y113_5), (6, .int z150_6)] [] (m156, S) (some (.int r0)) (mf, S) := by
                      intro z156_7 m156 h
                      try dsimp only at h
                      refine rsn 4 (t := (78, [(5, .int ((y113_5 + 1))), (4, .int z150_6), (0, .ref 0), (1, .int x1), (2, .int x2), (3, .int x3), (6, .int z150_6)], [])) rfl ?_
                      exact rsub [(0, .ref 0), (1, .int x1), (2, .int x2), (3, .int x3), (4, .int z150_6), (5, .int ((y113_5 + 1)))] ⟨rfl, ⟨rfl, ⟨rfl, ⟨rfl, ⟨rfl, ⟨rfl, trivial⟩⟩⟩⟩⟩⟩ ⟨rfl, ⟨rfl, ⟨rfl, ⟨rfl, ⟨rfl, ⟨rfl, trivial⟩⟩⟩⟩⟩⟩ (ih78 z150_6 ((y113_5 + 1)) m156 h)
                    have lp292 : ∀ (n : Nat) (y157_7 : Int32) (m157 : Mm), (f_Mo_fare_L292 N x1 x2 x3 y113_5 z150_6 (fun (z156_7 : Int32) (m156 : Mm) => f_Mo_fare_L78 N x1 x2 x3 (fun (z95_4 : Int32) (z95_5 : Int32) (m95 : Mm) => f_Mo_fare_L349 N x2 x3 z95_4 (fun (z103_5 : Int64) (z103_7 : Int32) (m103 : Mm) => b1 (f_Mo_told N z103_5 x3 m103) fun r104 => some (r104, m103)) N 0 0 m95) n78 z150_6 ((y113_5 + 1)) m156) n y157_7 m157) = some (r0, mf) → RN xs L al (Ev xs L al d) 208 292 [(0, .ref 0), (1, .int x1), (2, .int x2), (3, .int x3), (5, .int y113_5), (6, .int z150_6), (7, .int y157_7)] [] (m157, S) (some (.int r0)) (mf, S) := by
                      intro n
                      induction n with
                      | zero => intro y157_7 m157 h; exact absurd h (by simp [f_Mo_fare_L292])
                      | succ n292 ih292 =>
                        intro y157_7 m157 h
                        try dsimp only at h
                        rw [f_Mo_fare_L292] at h
                        try dsimp only at h
                        refine rsn 2 (t := (296, [(0, .ref 0), (1, .int x1), (2, .int x2), (3, .int x3), (5, .int y113_5), (6, .int z150_6), (7, .int y157_7)], [.int z150_6, .int y157_7])) rfl ?_
                        by_cases c158 : z150_6 ≤ y157_7
                        · rw [if_pos c158] at h
                          refine rjt (a := (333, [(0, .ref 0), (1, .int x1), (2, .int x2), (3, .int x3), (5, .int y113_5), (6, .int z150_6), (7, .int y157_7)], [])) (b := (299, [(0, .ref 0), (1, .int x1), (2, .int x2), (3, .int x3), (5, .int y113_5), (6, .int z150_6), (7, .int y157_7)], [])) rfl rfl c158 ?_
                          exact rsub [(0, .ref 0), (1, .int x1), (2, .int x2), (3, .int x3), (5, .int y113_5), (6, .int z150_6)] ⟨rfl, ⟨rfl, ⟨rfl, ⟨rfl, ⟨rfl, ⟨rfl, trivial⟩⟩⟩⟩⟩⟩ ⟨rfl, ⟨rfl, ⟨rfl, ⟨rfl, ⟨rfl, ⟨rfl, trivial⟩⟩⟩⟩⟩⟩ (ex292 y157_7 m157 h)
                        · rw [if_neg c158] at h
                          refine rjf (a := (333, [(0, .ref 0), (1, .int x1), (2, .int x2), (3, .int x3), (5, .int y113_5), (6, .int z150_6), (7, .int y157_7)], [])) (b := (299, [(0, .ref 0), (1, .int x1), (2, .int x2), (3, .int x3), (5, .int y113_5), (6, .int z150_6), (7, .int y157_7)], [])) rfl rfl c158 ?_
                          refine rsn 1 (t := (300, [(0, .ref 0), (1, .int x1), (2, .int x2), (3, .int x3), (5, .int y113_5), (6, .int z150_6), (7, .int y157_7)], [.ref 0])) rfl ?_
                          refine rgR rfl rfl rfl (hSh.k 0 rfl _) (hSh.r 21 rfl _) ?_
                          refine rsn 2 (t := (306, [(0, .ref 0), (1, .int x1), (2, .int x2), (3, .int x3), (5, .int y113_5), (6, .int z150_6), (7, .int y157_7)], [.ref 0, .int y157_7, .ref 22])) rfl ?_
                          refine rgR rfl rfl rfl (hSh.k 0 rfl _) (hSh.r 22 rfl _) ?_
                          refine rsn 1 (t := (311, [(0, .ref 0), (1, .int x1), (2, .int x2), (3, .int x3), (5, .int y113_5), (6, .int z150_6), (7, .int y157_7)], [.int y157_7, .ref 23, .int y157_7, .ref 22])) rfl ?_
                          obtain ⟨c159, h⟩ := ck_some h
                          refine pxJ rfl (hSh.k 23 rfl _) (hSh.l 22 rfl _) c159 ?_
                          show RN xs L al (Ev xs L al d) 208 312 [(0, .ref 0), (1, .int x1), (2, .int x2), (3, .int x3), (5, .int y113_5), (6, .int z150_6), (7, .int y157_7)] [.long ((mYy m157 23 y157_7.toNatClampNeg)), .int y157_7, .ref 22] (m157, S) (some (.int r0)) (mf, S)
                          obtain ⟨c160, h⟩ := ck_some h
                          refine psJ rfl (hSh.k 22 rfl _) (hSh.l 21 rfl _) c160 ?_
                          refine rsn 1 (t := (314, [(0, .ref 0), (1, .int x1), (2, .int x2), (3, .int x3), (5, .int y113_5), (6, .int z150_6), (7, .int y157_7)], [.ref 0])) rfl ?_
                          refine rgR rfl rfl rfl (hSh.k 0 rfl _) (hSh.r 23 rfl _) ?_
                          refine rsn 2 (t := (320, [(0, .ref 0), (1, .int x1), (2, .int x2), (3, .int x3), (5, .int y113_5), (6, .int z150_6), (7, .int y157_7)], [.ref 0, .int y157_7, .ref 24])) rfl ?_
                          refine rgR rfl rfl rfl (hSh.k 0 rfl _) (hSh.r 24 rfl _) ?_
                          refine rsn 1 (t := (325, [(0, .ref 0), (1, .int x1), (2, .int x2), (3, .int x3), (5, .int y113_5), (6, .int z150_6), (7, .int y157_7)], [.int y157_7, .ref 25, .int y157_7, .ref 24])) rfl ?_
                          obtain ⟨c161, h⟩ := ck_some h
                          refine pxJ rfl (hSh.k 25 rfl _) (hSh.l 24 rfl _) c161 ?_
                          show RN xs L al (Ev xs L al d) 208 326 [(0, .ref 0), (1, .int x1), (2, .int x2), (3, .int x3), (5, .int y113_5), (6, .int z150_6), (7, .int y157_7)] [.long ((mYy m157 25 y157_7.toNatClampNeg)), .int y157_7, .ref 24] ((vY m157 22 y157_7.toNatClampNeg ((mYy m157 23 y157_7.toNatClampNeg))), S) (some (.int r0)) (mf, S)
                          obtain ⟨c162, h⟩ := ck_some h
                          refine psJ rfl (hSh.k 24 rfl _) (hSh.l 23 rfl _) c162 ?_
                          refine rsn 2 (t := (292, [(7, .int ((y157_7 + 1))), (0, .ref 0), (1, .int x1), (2, .int x2), (3, .int x3), (5, .int y113_5), (6, .int z150_6)], [])) rfl ?_
                          exact rsub [(0, .ref 0), (1, .int x1), (2, .int x2), (3, .int x3), (5, .int y113_5), (6, .int z150_6), (7, .int ((y157_7 + 1)))] ⟨rfl, ⟨rfl, ⟨rfl, ⟨rfl, ⟨rfl, ⟨rfl, ⟨rfl, trivial⟩⟩⟩⟩⟩⟩⟩ ⟨rfl, ⟨rfl, ⟨rfl, ⟨rfl, ⟨rfl, ⟨rfl, ⟨rfl, trivial⟩⟩⟩⟩⟩⟩⟩ (ih292 ((y157_7 + 1)) ((vY (vY m157 22 y157_7.toNatClampNeg ((mYy m157 23 y157_7.toNatClampNeg))) 24 y157_7.toNatClampNeg ((mYy m157 25 y157_7.toNatClampNeg)))) h)
                    exact rsub [(0, .ref 0), (1, .int x1), (2, .int x2), (3, .int x3), (5, .int y113_5), (6, .int z150_6), (7, .int 0)] ⟨rfl, ⟨rfl, ⟨rfl, ⟨rfl, ⟨rfl, ⟨rfl, ⟨rfl, trivial⟩⟩⟩⟩⟩⟩⟩ ⟨rfl, ⟨rfl, ⟨rfl, ⟨rfl, ⟨rfl, ⟨rfl, ⟨rfl, trivial⟩⟩⟩⟩⟩⟩⟩ (lp292 N 0 m150 h)
                  have lp98 : ∀ (n : Nat) (y163_6 : Int32) (y163_7 : Int32) (m163 : Mm), (f_Mo_fare_L98 N x1 x2 x3 y113_4 y113_5 (fun (z150_6 : Int32) (z150_7 : Int32) (m150 : Mm) => f_Mo_fare_L292 N x1 x2 x3 y113_5 z150_6 (fun (z156_7 : Int32) (m156 : Mm) => f_Mo_fare_L78 N x1 x2 x3 (fun (z95_4 : Int32) (z95_5 : Int32) (m95 : Mm) => f_Mo_fare_L349 N x2 x3 z95_4 (fun (z103_5 : Int64) (z103_7 : Int32) (m103 : Mm) => b1 (f_Mo_told N z103_5 x3 m103) fun r104 => some (r104, m103)) N 0 0 m95) n78 z150_6 ((y113_5 + 1)) m156) N 0 m150) n y163_6 y163_7 m163) = some (r0, mf) → RN xs L al (Ev xs L al d) 208 98 [(0, .ref 0), (1, .int x1), (2, .int x2), (3, .int x3), (4, .int y113_4), (5, .int y113_5), (6, .int y163_6), (7, .int y163_7)] [] (m163, S) (some (.int r0)) (mf, S) := by
                    intro n
                    induction n with
                    | zero => intro y163_6 y163_7 m163 h; exact absurd h (by simp [f_Mo_fare_L98])
                    | succ n98 ih98 =>
                      intro y163_6 y163_7 m163 h
                      try dsimp only at h
                      rw [f_Mo_fare_L98] at h
                      try dsimp only at h
                      refine rsn 2 (t := (102, [(0, .ref 0), (1, .int x1), (2, .int x2), (3, .int x3), (4, .int y113_4), (5, .int y113_5), (6, .int y163_6), (7, .int y163_7)], [.int y113_4, .int y163_7])) rfl ?_
                      by_cases c164 : y113_4 ≤ y163_7
                      · rw [if_pos c164] at h
                        refine rjt (a := (289, [(0, .ref 0), (1, .int x1), (2, .int x2), (3, .int x3), (4, .int y113_4), (5, .int y113_5), (6, .int y163_6), (7, .int y163_7)], [])) (b := (105, [(0, .ref 0), (1, .int x1), (2, .int x2), (3, .int x3), (4, .int y113_4), (5, .int y113_5), (6, .int y163_6), (7, .int y163_7)], [])) rfl rfl c164 ?_
                        exact rsub [(0, .ref 0), (1, .int x1), (2, .int x2), (3, .int x3), (5, .int y113_5), (6, .int y163_6)] ⟨rfl, ⟨rfl, ⟨rfl, ⟨rfl, ⟨rfl, ⟨rfl, trivial⟩⟩⟩⟩⟩⟩ ⟨rfl, ⟨rfl, ⟨rfl, ⟨rfl, ⟨rfl, ⟨rfl, trivial⟩⟩⟩⟩⟩⟩ (ex98 y163_6 y163_7 m163 h)
                      · rw [if_neg c164] at h
                        refine rjf (a := (289, [(0, .ref 0), (1, .int x1), (2, .int x2), (3, .int x3), (4, .int y113_4), (5, .int y113_5), (6, .int y163_6), (7, .int y163_7)], [])) (b := (105, [(0, .ref 0), (1, .int x1), (2, .int x2), (3, .int x3), (4, .int y113_4), (5, .int y113_5), (6, .int y163_6), (7, .int y163_7)], [])) rfl rfl c164 ?_
                        refine rsn 2 (t := (108, [(8, .int 0), (0, .ref 0), (1, .int x1), (2, .int x2), (3, .int x3), (4, .int y113_4), (5, .int y113_5), (6, .int y163_6), (7, .int y163_7)], [])) rfl ?_
                        have ex108 : ∀ (z181_6 : Int32) (z181_8 : Int32) (m181 : Mm), (f_Mo_fare_L98 N x1 x2 x3 y113_4 y113_5 (fun (z150_6 : Int32) (z150_7 : Int32) (m150 : Mm) => f_Mo_fare_L292 N x1 x2 x3 y113_5 z150_6 (fun (z156_7 : Int32) (m156 : Mm) => f_Mo_fare_L78 N x1 x2 x3 (fun (z95_4 : Int32) (z95_5 : Int32) (m95 : Mm) => f_Mo_fare_L349 N x2 x3 z95_4 (fun (z103_5 : Int64) (z103_7 : Int32) (m103 : Mm) => b1 (f_Mo_told N z103_5 x3 m103) fun r104 => some (r104, m103)) N 0 0 m95) n78 z150_6 ((y113_5 + 1)) m156) N 0 m150) n98 z181_6 ((y163_7 + 1)) m181) = some (r0, mf) → RN xs L al (Ev xs L al d) 208 283 [(0, .ref 0), (1, .int x1), (2, .int x2), (3, .int x3), (4, .int y113_4), (5, .int y113_5), (6, .int z181_6), (7, .int y163_7)] [] (m181, S) (some (.int r0)) (mf, S) := by
                          intro z181_6 z181_8 m181 h
                          try dsimp only at h
                          refine rsn 2 (t := (98, [(7, .int ((y163_7 + 1))), (0, .ref 0), (1, .int x1), (2, .int x2), (3, .int x3), (4, .int y113_4), (5, .int y113_5), (6, .int z181_6)], [])) rfl ?_
                          exact rsub [(0, .ref 0), (1, .int x1), (2, .int x2), (3, .int x3), (4, .int y113_4), (5, .int y113_5), (6, .int z181_6), (7, .int ((y163_7 + 1)))] ⟨rfl, ⟨rfl, ⟨rfl, ⟨rfl, ⟨rfl, ⟨rfl, ⟨rfl, ⟨rfl, trivial⟩⟩⟩⟩⟩⟩⟩⟩ ⟨rfl, ⟨rfl, ⟨rfl, ⟨rfl, ⟨rfl, ⟨rfl, ⟨rfl, ⟨rfl, trivial⟩⟩⟩⟩⟩⟩⟩⟩ (ih98 z181_6 ((y163_7 + 1)) m181 h)
                        have lp108 : ∀ (n : Nat) (y182_6 : Int32) (y182_8 : Int32) (m182 : Mm), (f_Mo_fare_L108 N x1 x2 x3 y113_4 y113_5 y163_7 (fun (z181_6 : Int32) (z181_8 : Int32) (m181 : Mm) => f_Mo_fare_L98 N x1 x2 x3 y113_4 y113_5 (fun (z150_6 : Int32) (z150_7 : Int32) (m150 : Mm) => f_Mo_fare_L292 N x1 x2 x3 y113_5 z150_6 (fun (z156_7 : Int32) (m156 : Mm) => f_Mo_fare_L78 N x1 x2 x3 (fun (z95_4 : Int32) (z95_5 : Int32) (m95 : Mm) => f_Mo_fare_L349 N x2 x3 z95_4 (fun (z103_5 : Int64) (z103_7 : Int32) (m103 : Mm) => b1 (f_Mo_told N z103_5 x3 m103) fun r104 => some (r104, m103)) N 0 0 m95) n78 z150_6 ((y113_5 + 1)) m156) N 0 m150) n98 z181_6 ((y163_7 + 1)) m181) n y182_6 y182_8 m182) = some (r0, mf) → RN xs L al (Ev xs L al d) 208 108 [(0, .ref 0), (1, .int x1), (2, .int x2), (3, .int x3), (4, .int y113_4), (5, .int y113_5), (6, .int y182_6), (7, .int y163_7), (8, .int y182_8)] [] (m182, S) (some (.int r0)) (mf, S) := by
                          intro n
                          induction n with
                          | zero => intro y182_6 y182_8 m182 h; exact absurd h (by simp [f_Mo_fare_L108])
                          | succ n108 ih108 =>
                            intro y182_6 y182_8 m182 h
                            try dsimp only at h
                            rw [f_Mo_fare_L108] at h
                            try dsimp only at h
                            refine rsn 2 (t := (111, [(0, .ref 0), (1, .int x1), (2, .int x2), (3, .int x3), (4, .int y113_4), (5, .int y113_5), (6, .int y182_6), (7, .int y163_7), (8, .int y182_8)], [.ref 0, .int y182_8])) rfl ?_
                            refine rgR rfl rfl rfl (hSh.k 0 rfl _) (hSh.r 7 rfl _) ?_
                            refine rsn 1 (t := (115, [(0, .ref 0), (1, .int x1), (2, .int x2), (3, .int x3), (4, .int y113_4), (5, .int y113_5), (6, .int y182_6), (7, .int y163_7), (8, .int y182_8)], [.ref 0, .ref 8, .int y182_8])) rfl ?_
                            refine pgI rfl rfl rfl (hSh.k 0 rfl _) ?_
                            show RN xs L al (Ev xs L al d) 208 118 [(0, .ref 0), (1, .int x1), (2, .int x2), (3, .int x3), (4, .int y113_4), (5, .int y113_5), (6, .int y182_6), (7, .int y163_7), (8, .int y182_8)] [.int ((mI m182 0 24)), .ref 8, .int y182_8] (m182, S) (some (.int r0)) (mf, S)
                            refine rsn 2 (t := (121, [(0, .ref 0), (1, .int x1), (2, .int x2), (3, .int x3), (4, .int y113_4), (5, .int y113_5), (6, .int y182_6), (7, .int y163_7), (8, .int y182_8)], [.int ((((mI m182 0 24)) + y113_5)), .ref 8, .int y182_8])) rfl ?_
                            obtain ⟨c183, h⟩ := ck_some h
                            refine pxI rfl (hSh.k 8 rfl _) (hSh.l 7 rfl _) c183 ?_
                            show RN xs L al (Ev xs L al d) 208 122 [(0, .ref 0), (1, .int x1), (2, .int x2), (3, .int x3), (4, .int y113_4), (5, .int y113_5), (6, .int y182_6), (7, .int y163_7), (8, .int y182_8)] [.int ((mX m182 8 (((((mI m182 0 24)) + y113_5)).toNatClampNeg))), .int y182_8] (m182, S) (some (.int r0)) (mf, S)
                            by_cases c184 : ((mX m182 8 (((((mI m182 0 24)) + y113_5)).toNatClampNeg))) ≤ y182_8
                            · rw [if_pos c184] at h
                              refine rjt (a := (283, [(0, .ref 0), (1, .int x1), (2, .int x2), (3, .int x3), (4, .int y113_4), (5, .int y113_5), (6, .int y182_6), (7, .int y163_7), (8, .int y182_8)], [])) (b := (125, [(0, .ref 0), (1, .int x1), (2, .int x2), (3, .int x3), (4, .int y113_4), (5, .int y113_5), (6, .int y182_6), (7, .int y163_7), (8, .int y182_8)], [])) rfl rfl c184 ?_
                              exact rsub [(0, .ref 0), (1, .int x1), (2, .int x2), (3, .int x3), (4, .int y113_4), (5, .int y113_5), (6, .int y182_6), (7, .int y163_7)] ⟨rfl, ⟨rfl, ⟨rfl, ⟨rfl, ⟨rfl, ⟨rfl, ⟨rfl, ⟨rfl, trivial⟩⟩⟩⟩⟩⟩⟩⟩ ⟨rfl, ⟨rfl, ⟨rfl, ⟨rfl, ⟨rfl, ⟨rfl, ⟨rfl, ⟨rfl, trivial⟩⟩⟩⟩⟩⟩⟩⟩ (ex108 y182_6 y182_8 m182 h)
                            · rw [if_neg c184] at h
                              refine rjf (a := (283, [(0, .ref 0), (1, .int x1), (2, .int x2), (3, .int x3), (4, .int y113_4), (5, .int y113_5), (6, .int y182_6), (7, .int y163_7), (8, .int y182_8)], [])) (b := (125, [(0, .ref 0), (1, .int x1), (2, .int x2), (3, .int x3), (4, .int y113_4), (5, .int y113_5), (6, .int y182_6), (7, .int y163_7), (8, .int y182_8)], [])) rfl rfl c184 ?_
                              refine rsn 1 (t := (126, [(0, .ref 0), (1, .int x1), (2, .int x2), (3, .int x3), (4, .int y113_4), (5, .int y113_5), (6, .int y182_6), (7, .int y163_7), (8, .int y182_8)], [.ref 0])) rfl ?_
                              refine rgR rfl rfl rfl (hSh.k 0 rfl _) (hSh.r 21 rfl _) ?_
                              refine rsn 1 (t := (131, [(0, .ref 0), (1, .int x1), (2, .int x2), (3, .int x3), (4, .int y113_4), (5, .int y113_5), (6, .int y182_6), (7, .int y163_7), (8, .int y182_8)], [.int y163_7, .ref 22])) rfl ?_
                              obtain ⟨c185, h⟩ := ck_some h
                              refine pxJ rfl (hSh.k 22 rfl _) (hSh.l 21 rfl _) c185 ?_
                              show RN xs L al (Ev xs L al d) 208 132 [(0, .ref 0), (1, .int x1), (2, .int x2), (3, .int x3), (4, .int y113_4), (5, .int y113_5), (6, .int y182_6), (7, .int y163_7), (8, .int y182_8)] [.long ((mYy m182 22 y163_7.toNatClampNeg))] (m182, S) (some (.int r0)) (mf, S)
                              refine rsn 3 (t := (136, [(9, .long ((mYy m182 22 y163_7.toNatClampNeg))), (0, .ref 0), (1, .int x1), (2, .int x2), (3, .int x3), (4, .int y113_4), (5, .int y113_5), (6, .int y182_6), (7, .int y163_7), (8, .int y182_8)], [.ref 0, .ref 0])) rfl ?_
                              refine pgI rfl rfl rfl (hSh.k 0 rfl _) ?_
                              show RN xs L al (Ev xs L al d) 208 139 [(9, .long ((mYy m182 22 y163_7.toNatClampNeg))), (0, .ref 0), (1, .int x1), (2, .int x2), (3, .int x3), (4, .int y113_4), (5, .int y113_5), (6, .int y182_6), (7, .int y163_7), (8, .int y182_8)] [.int ((mI m182 0 24)), .ref 0] (m182, S) (some (.int r0)) (mf, S)
                              refine rsn 4 (t := (145, [(9, .long ((mYy m182 22 y163_7.toNatClampNeg))), (0, .ref 0), (1, .int x1), (2, .int x2), (3, .int x3), (4, .int y113_4), (5, .int y113_5), (6, .int y182_6), (7, .int y163_7), (8, .int y182_8)], [.int 1, .int y182_8, .int ((((mI m182 0 24)) + y113_5)), .ref 0])) rfl ?_
                              obtain ⟨r186, g186, h⟩ := b1_some h
                              refine rcV 177 0 [.int ((((mI m182 0 24)) + y113_5)), .int y182_8, .int 1] rfl rfl rfl (hSh.k 0 rfl _) (Nat.le_of_ble_eq_true rfl) rfl (e_Mo_altOf N (by omega) hSh g186) ?_
                              show RN xs L al (Ev xs L al d) 208 148 [(9, .long ((mYy m182 22 y163_7.toNatClampNeg))), (0, .ref 0), (1, .int x1), (2, .int x2), (3, .int x3), (4, .int y113_4), (5, .int y113_5), (6, .int y182_6), (7, .int y163_7), (8, .int y182_8)] [.int r186] (m182, S) (some (.int r0)) (mf, S)
                              refine rsn 3 (t := (152, [(11, .int r186), (9, .long ((mYy m182 22 y163_7.toNatClampNeg))), (0, .ref 0), (1, .int x1), (2, .int x2), (3, .int x3), (4, .int y113_4), (5, .int y113_5), (6, .int y182_6), (7, .int y163_7), (8, .int y182_8)], [.ref 0, .ref 0])) rfl ?_
                              refine pgI rfl rfl rfl (hSh.k 0 rfl _) ?_
                              show RN xs L al (Ev xs L al d) 208 155 [(11, .int r186), (9, .long ((mYy m182 22 y163_7.toNatClampNeg))), (0, .ref 0), (1, .int x1), (2, .int x2), (3, .int x3), (4, .int y113_4), (5, .int y113_5), (6, .int y182_6), (7, .int y163_7), (8, .int y182_8)] [.int ((mI m182 0 24)), .ref 0] (m182, S) (some (.int r0)) (mf, S)
                              refine rsn 4 (t := (161, [(11, .int r186), (9, .long ((mYy m182 22 y163_7.toNatClampNeg))), (0, .ref 0), (1, .int x1), (2, .int x2), (3, .int x3), (4, .int y113_4), (5, .int y113_5), (6, .int y182_6), (7, .int y163_7), (8, .int y182_8)], [.int 2, .int y182_8, .int ((((mI m182 0 24)) + y113_5)), .ref 0])) rfl ?_
                              obtain ⟨r187, g187, h⟩ := b1_some h
                              refine rcV 177 0 [.int ((((mI m182 0 24)) + y113_5)), .int y182_8, .int 2] rfl rfl rfl (hSh.k 0 rfl _) (Nat.le_of_ble_eq_true rfl) rfl (e_Mo_altOf N (by omega) hSh g187) ?_
                              show RN xs L al (Ev xs L al d) 208 164 [(11, .int r186), (9, .long ((mYy m182 22 y163_7.toNatClampNeg))), (0, .ref 0), (1, .int x1), (2, .int x2), (3, .int x3), (4, .int y113_4), (5, .int y113_5), (6, .int y182_6), (7, .int y163_7), (8, .int y182_8)] [.int r187] (m182, S) (some (.int r0)) (mf, S)
                              refine rsn 2 (t := (167, [(12, .int r187), (11, .int r186), (9, .long ((mYy m182 22 y163_7.toNatClampNeg))), (0, .ref 0), (1, .int x1), (2, .int x2), (3, .int x3), (4, .int y113_4), (5, .int y113_5), (6, .int y182_6), (7, .int y163_7), (8, .int y182_8)], [.ref 0])) rfl ?_
                              refine rgR rfl rfl rfl (hSh.k 0 rfl _) (hSh.r 22 rfl _) ?_
                              refine rsn 3 (t := (175, [(12, .int r187), (11, .int r186), (9, .long ((mYy m182 22 y163_7.toNatClampNeg))), (0, .ref 0), (1, .int x1), (2, .int x2), (3, .int x3), (4, .int y113_4), (5, .int y113_5), (6, .int y182_6), (7, .int y163_7), (8, .int y182_8)], [.int 1, .int r186, .int y182_6, .ref 23])) rfl ?_
                              have jp243 : ∀ (s188 : Int64), (ck (ix y182_6 729) (ck (ix y163_7 729) (b1 (f_Mo_altOf N ((((mI m182 0 24)) + y113_5)) y182_8 0 (vY m182 23 y182_6.toNatClampNeg s188)) fun r191 => ck (ix y182_6 729) (f_Mo_fare_L108 N x1 x2 x3 y113_4 y113_5 y163_7 (fun (z181_6 : Int32) (z181_8 : Int32) (m181 : Mm) => f_Mo_fare_L98 N x1 x2 x3 y113_4 y113_5 (fun (z150_6 : Int32) (z150_7 : Int32) (m150 : Mm) => f_Mo_fare_L292 N x1 x2 x3 y113_5 z150_6 (fun (z156_7 : Int32) (m156 : Mm) => f_Mo_fare_L78 N x1 x2 x3 (fun (z95_4 : Int32) (z95_5 : Int32) (m95 : Mm) => f_Mo_fare_L349 N x2 x3 z95_4 (fun (z103_5 : Int64) (z103_7 : Int32) (m103 : Mm) => b1 (f_Mo_told N z103_5 x3 m103) fun r104 => some (r104, m103)) N 0 0 m95) n78 z150_6 ((y113_5 + 1)) m156) N 0 m150) n98 z181_6 ((y163_7 + 1)) m181) n108 ((y182_6 + 1)) ((y182_8 + 1)) ((vY (vY m182 23 y182_6.toNatClampNeg s188) 25 y182_6.toNatClampNeg ((((mYy m182 24 y163_7.toNatClampNeg)) * r191.toInt64)))))))) = some (r0, mf) → RN xs L al (Ev xs L al d) 208 243 [(0, .ref 0), (1, .int x1), (2, .int x2), (3, .int x3), (4, .int y113_4), (5, .int y113_5), (6, .int y182_6), (7, .int y163_7), (8, .int y182_8)] [.long s188, .int y182_6, .ref 23] (m182, S) (some (.int r0)) (mf, S) := by
                                intro s188 h
                                try dsimp only at h
                                obtain ⟨c189, h⟩ := ck_some h
                                refine psJ rfl (hSh.k 23 rfl _) (hSh.l 22 rfl _) c189 ?_
                                refine rsn 1 (t := (245, [(0, .ref 0), (1, .int x1), (2, .int x2), (3, .int x3), (4, .int y113_4), (5, .int y113_5), (6, .int y182_6), (7, .int y163_7), (8, .int y182_8)], [.ref 0])) rfl ?_
                                refine rgR rfl rfl rfl (hSh.k 0 rfl _) (hSh.r 24 rfl _) ?_
                                refine rsn 2 (t := (251, [(0, .ref 0), (1, .int x1), (2, .int x2), (3, .int x3), (4, .int y113_4), (5, .int y113_5), (6, .int y182_6), (7, .int y163_7), (8, .int y182_8)], [.ref 0, .int y182_6, .ref 25])) rfl ?_
                                refine rgR rfl rfl rfl (hSh.k 0 rfl _) (hSh.r 23 rfl _) ?_
                                refine rsn 1 (t := (256, [(0, .ref 0), (1, .int x1), (2, .int x2), (3, .int x3), (4, .int y113_4), (5, .int y113_5), (6, .int y182_6), (7, .int y163_7), (8, .int y182_8)], [.int y163_7, .ref 24, .int y182_6, .ref 25])) rfl ?_
                                obtain ⟨c190, h⟩ := ck_some h
                                refine pxJ rfl (hSh.k 24 rfl _) (hSh.l 23 rfl _) c190 ?_
                                show RN xs L al (Ev xs L al d) 208 257 [(0, .ref 0), (1, .int x1), (2, .int x2), (3, .int x3), (4, .int y113_4), (5, .int y113_5), (6, .int y182_6), (7, .int y163_7), (8, .int y182_8)] [.long ((mYy m182 24 y163_7.toNatClampNeg)), .int y182_6, .ref 25] ((vY m182 23 y182_6.toNatClampNeg s188), S) (some (.int r0)) (mf, S)
                                refine rsn 2 (t := (259, [(0, .ref 0), (1, .int x1), (2, .int x2), (3, .int x3), (4, .int y113_4), (5, .int y113_5), (6, .int y182_6), (7, .int y163_7), (8, .int y182_8)], [.ref 0, .ref 0, .long ((mYy m182 24 y163_7.toNatClampNeg)), .int y182_6, .ref 25])) rfl ?_
                                refine pgI rfl rfl rfl (hSh.k 0 rfl _) ?_
                                show RN xs L al (Ev xs L al d) 208 262 [(0, .ref 0), (1, .int x1), (2, .int x2), (3, .int x3), (4, .int y113_4), (5, .int y113_5), (6, .int y182_6), (7, .int y163_7), (8, .int y182_8)] [.int ((mI m182 0 24)), .ref 0, .long ((mYy m182 24 y163_7.toNatClampNeg)), .int y182_6, .ref 25] ((vY m182 23 y182_6.toNatClampNeg s188), S) (some (.int r0)) (mf, S)
                                refine rsn 4 (t := (268, [(0, .ref 0), (1, .int x1), (2, .int x2), (3, .int x3), (4, .int y113_4), (5, .int y113_5), (6, .int y182_6), (7, .int y163_7), (8, .int y182_8)], [.int 0, .int y182_8, .int ((((mI m182 0 24)) + y113_5)), .ref 0, .long ((mYy m182 24 y163_7.toNatClampNeg)), .int y182_6, .ref 25])) rfl ?_
                                obtain ⟨r191, g191, h⟩ := b1_some h
                                refine rcV 177 0 [.int ((((mI m182 0 24)) + y113_5)), .int y182_8, .int 0] rfl rfl rfl (hSh.k 0 rfl _) (Nat.le_of_ble_eq_true rfl) rfl (e_Mo_altOf N (by omega) hSh g191) ?_
                                show RN xs L al (Ev xs L al d) 208 271 [(0, .ref 0), (1, .int x1), (2, .int x2), (3, .int x3), (4, .int y113_4), (5, .int y113_5), (6, .int y182_6), (7, .int y163_7), (8, .int y182_8)] [.int r191, .long ((mYy m182 24 y163_7.toNatClampNeg)), .int y182_6, .ref 25] ((vY m182 23 y182_6.toNatClampNeg s188), S) (some (.int r0)) (mf, S)
                                refine rsn 2 (t := (273, [(0, .ref 0), (1, .int x1), (2, .int x2), (3, .int x3), (4, .int y113_4), (5, .int y113_5), (6, .int y182_6), (7, .int y163_7), (8, .int y182_8)], [.long ((((mYy m182 24 y163_7.toNatClampNeg)) * r191.toInt64)), .int y182_6, .ref 25])) rfl ?_
                                obtain ⟨c192, h⟩ := ck_some h
                                refine psJ rfl (hSh.k 25 rfl _) (hSh.l 24 rfl _) c192 ?_
                                refine rsn 3 (t := (108, [(8, .int ((y182_8 + 1))), (6, .int ((y182_6 + 1))), (0, .ref 0), (1, .int x1), (2, .int x2), (3, .int x3), (4, .int y113_4), (5, .int y113_5), (7, .int y163_7)], [])) rfl ?_
                                exact rsub [(0, .ref 0), (1, .int x1), (2, .int x2), (3, .int x3), (4, .int y113_4), (5, .int y113_5), (6, .int ((y182_6 + 1))), (7, .int y163_7), (8, .int ((y182_8 + 1)))] ⟨rfl, ⟨rfl, ⟨rfl, ⟨rfl, ⟨rfl, ⟨rfl, ⟨rfl, ⟨rfl, ⟨rfl, trivial⟩⟩⟩⟩⟩⟩⟩⟩⟩ ⟨rfl, ⟨rfl, ⟨rfl, ⟨rfl, ⟨rfl, ⟨rfl, ⟨rfl, ⟨rfl, ⟨rfl, trivial⟩⟩⟩⟩⟩⟩⟩⟩⟩ (ih108 ((y182_6 + 1)) ((y182_8 + 1)) ((vY (vY m182 23 y182_6.toNatClampNeg s188) 25 y182_6.toNatClampNeg ((((mYy m182 24 y163_7.toNatClampNeg)) * r191.toInt64)))) h)
                              rw [jn] at h
                              try dsimp only at h
                              by_cases c193 : r186 = 1
                              · rw [if_pos c193] at h
                                refine rjf (a := (191, [(12, .int r187), (11, .int r186), (9, .long ((mYy m182 22 y163_7.toNatClampNeg))), (0, .ref 0), (1, .int x1), (2, .int x2), (3, .int x3), (4, .int y113_4), (5, .int y113_5), (6, .int y182_6), (7, .int y163_7), (8, .int y182_8)], [.int y182_6, .ref 23])) (b := (178, [(12, .int r187), (11, .int r186), (9, .long ((mYy m182 22 y163_7.toNatClampNeg))), (0, .ref 0), (1, .int x1), (2, .int x2), (3, .int x3), (4, .int y113_4), (5, .int y113_5), (6, .int y182_6), (7, .int y163_7), (8, .int y182_8)], [.int y182_6, .ref 23])) rfl rfl (fun q => q c193) ?_
                                refine rsn 5 (t := (186, [(12, .int r187), (11, .int r186), (9, .long ((mYy m182 22 y163_7.toNatClampNeg))), (0, .ref 0), (1, .int x1), (2, .int x2), (3, .int x3), (4, .int y113_4), (5, .int y113_5), (6, .int y182_6), (7, .int y163_7), (8, .int y182_8)], [.int ((36 + r187)), .long 1, .long ((mYy m182 22 y163_7.toNatClampNeg)), .int y182_6, .ref 23])) rfl ?_
                                refine rsn 1 (t := (187, [(12, .int r187), (11, .int r186), (9, .long ((mYy m182 22 y163_7.toNatClampNeg))), (0, .ref 0), (1, .int x1), (2, .int x2), (3, .int x3), (4, .int y113_4), (5, .int y113_5), (6, .int y182_6), (7, .int y163_7), (8, .int y182_8)], [.long ((lsl 1 ((36 + r187)))), .long ((mYy m182 22 y163_7.toNatClampNeg)), .int y182_6, .ref 23])) rfl ?_
                                refine rsn 2 (t := (243, [(12, .int r187), (11, .int r186), (9, .long ((mYy m182 22 y163_7.toNatClampNeg))), (0, .ref 0), (1, .int x1), (2, .int x2), (3, .int x3), (4, .int y113_4), (5, .int y113_5), (6, .int y182_6), (7, .int y163_7), (8, .int y182_8)], [.long ((((mYy m182 22 y163_7.toNatClampNeg)) ||| ((lsl 1 ((36 + r187)))))), .int y182_6, .ref 23])) rfl ?_
                                exact rsub [(0, .ref 0), (1, .int x1), (2, .int x2), (3, .int x3), (4, .int y113_4), (5, .int y113_5), (6, .int y182_6), (7, .int y163_7), (8, .int y182_8)] ⟨rfl, ⟨rfl, ⟨rfl, ⟨rfl, ⟨rfl, ⟨rfl, ⟨rfl, ⟨rfl, ⟨rfl, trivial⟩⟩⟩⟩⟩⟩⟩⟩⟩ ⟨rfl, ⟨rfl, ⟨rfl, ⟨rfl, ⟨rfl, ⟨rfl, ⟨rfl, ⟨rfl, ⟨rfl, trivial⟩⟩⟩⟩⟩⟩⟩⟩⟩ (jp243 ((((mYy m182 22 y163_7.toNatClampNeg)) ||| ((lsl 1 ((36 + r187)))))) h)
                              · rw [if_neg c193] at h
                                refine rjt (a := (191, [(12, .int r187), (11, .int r186), (9, .long ((mYy m182 22 y163_7.toNatClampNeg))), (0, .ref 0), (1, .int x1), (2, .int x2), (3, .int x3), (4, .int y113_4), (5, .int y113_5), (6, .int y182_6), (7, .int y163_7), (8, .int y182_8)], [.int y182_6, .ref 23])) (b := (178, [(12, .int r187), (11, .int r186), (9, .long ((mYy m182 22 y163_7.toNatClampNeg))), (0, .ref 0), (1, .int x1), (2, .int x2), (3, .int x3), (4, .int y113_4), (5, .int y113_5), (6, .int y182_6), (7, .int y163_7), (8, .int y182_8)], [.int y182_6, .ref 23])) rfl rfl c193 ?_
                                refine rsn 2 (t := (194, [(12, .int r187), (11, .int r186), (9, .long ((mYy m182 22 y163_7.toNatClampNeg))), (0, .ref 0), (1, .int x1), (2, .int x2), (3, .int x3), (4, .int y113_4), (5, .int y113_5), (6, .int y182_6), (7, .int y163_7), (8, .int y182_8)], [.int 2, .int r186, .int y182_6, .ref 23])) rfl ?_
                                by_cases c194 : r186 = 2
                                · rw [if_pos c194] at h
                                  refine rjf (a := (202, [(12, .int r187), (11, .int r186), (9, .long ((mYy m182 22 y163_7.toNatClampNeg))), (0, .ref 0), (1, .int x1), (2, .int x2), (3, .int x3), (4, .int y113_4), (5, .int y113_5), (6, .int y182_6), (7, .int y163_7), (8, .int y182_8)], [.int y182_6, .ref 23])) (b := (197, [(12, .int r187), (11, .int r186), (9, .long ((mYy m182 22 y163_7.toNatClampNeg))), (0, .ref 0), (1, .int x1), (2, .int x2), (3, .int x3), (4, .int y113_4), (5, .int y113_5), (6, .int y182_6), (7, .int y163_7), (8, .int y182_8)], [.int y182_6, .ref 23])) rfl rfl (fun q => q c194) ?_
                                  refine rsn 2 (t := (243, [(12, .int r187), (11, .int r186), (9, .long ((mYy m182 22 y163_7.toNatClampNeg))), (0, .ref 0), (1, .int x1), (2, .int x2), (3, .int x3), (4, .int y113_4), (5, .int y113_5), (6, .int y182_6), (7, .int y163_7), (8, .int y182_8)], [.long ((mYy m182 22 y163_7.toNatClampNeg)), .int y182_6, .ref 23])) rfl ?_
                                  exact rsub [(0, .ref 0), (1, .int x1), (2, .int x2), (3, .int x3), (4, .int y113_4), (5, .int y113_5), (6, .int y182_6), (7, .int y163_7), (8, .int y182_8)] ⟨rfl, ⟨rfl, ⟨rfl, ⟨rfl, ⟨rfl, ⟨rfl, ⟨rfl, ⟨rfl, ⟨rfl, trivial⟩⟩⟩⟩⟩⟩⟩⟩⟩ ⟨rfl, ⟨rfl, ⟨rfl, ⟨rfl, ⟨rfl, ⟨rfl, ⟨rfl, ⟨rfl, ⟨rfl, trivial⟩⟩⟩⟩⟩⟩⟩⟩⟩ (jp243 ((mYy m182 22 y163_7.toNatClampNeg)) h)
                                · rw [if_neg c194] at h
                                  refine rjt (a := (202, [(12, .int r187), (11, .int r186), (9, .long ((mYy m182 22 y163_7.toNatClampNeg))), (0, .ref 0), (1, .int x1), (2, .int x2), (3, .int x3), (4, .int y113_4), (5, .int y113_5), (6, .int y182_6), (7, .int y163_7), (8, .int y182_8)], [.int y182_6, .ref 23])) (b := (197, [(12, .int r187), (11, .int r186), (9, .long ((mYy m182 22 y163_7.toNatClampNeg))), (0, .ref 0), (1, .int x1), (2, .int x2), (3, .int x3), (4, .int y113_4), (5, .int y113_5), (6, .int y182_6), (7, .int y163_7), (8, .int y182_8)], [.int y182_6, .ref 23])) rfl rfl c194 ?_
                                  refine rsn 2 (t := (204, [(12, .int r187), (11, .int r186), (9, .long ((mYy m182 22 y163_7.toNatClampNeg))), (0, .ref 0), (1, .int x1), (2, .int x2), (3, .int x3), (4, .int y113_4), (5, .int y113_5), (6, .int y182_6), (7, .int y163_7), (8, .int y182_8)], [.int 4, .int x1, .int y182_6, .ref 23])) rfl ?_
                                  by_cases c195 : x1 = 4
                                  · rw [if_pos c195] at h
                                    refine rjf (a := (224, [(12, .int r187), (11, .int r186), (9, .long ((mYy m182 22 y163_7.toNatClampNeg))), (0, .ref 0), (1, .int x1), (2, .int x2), (3, .int x3), (4, .int y113_4), (5, .int y113_5), (6, .int y182_6), (7, .int y163_7), (8, .int y182_8)], [.int y182_6, .ref 23])) (b := (207, [(12, .int r187), (11, .int r186), (9, .long ((mYy m182 22 y163_7.toNatClampNeg))), (0, .ref 0), (1, .int x1), (2, .int x2), (3, .int x3), (4, .int y113_4), (5, .int y113_5), (6, .int y182_6), (7, .int y163_7), (8, .int y182_8)], [.int y182_6, .ref 23])) rfl rfl (fun q => q c195) ?_
                                    refine rsn 5 (t := (215, [(12, .int r187), (11, .int r186), (9, .long ((mYy m182 22 y163_7.toNatClampNeg))), (0, .ref 0), (1, .int x1), (2, .int x2), (3, .int x3), (4, .int y113_4), (5, .int y113_5), (6, .int y182_6), (7, .int y163_7), (8, .int y182_8)], [.ref 0, .int y182_8, .int y113_5, .long ((mYy m182 22 y163_7.toNatClampNeg)), .ref 0, .int y182_6, .ref 23])) rfl ?_
                                    refine pgI rfl rfl rfl (hSh.k 0 rfl _) ?_
                                    show RN xs L al (Ev xs L al d) 208 218 [(12, .int r187), (11, .int r186), (9, .long ((mYy m182 22 y163_7.toNatClampNeg))), (0, .ref 0), (1, .int x1), (2, .int x2), (3, .int x3), (4, .int y113_4), (5, .int y113_5), (6, .int y182_6), (7, .int y163_7), (8, .int y182_8)] [.int ((mI m182 0 21)), .int y182_8, .int y113_5, .long ((mYy m182 22 y163_7.toNatClampNeg)), .ref 0, .int y182_6, .ref 23] (m182, S) (some (.int r0)) (mf, S)
                                    obtain ⟨r198, g198, h⟩ := b1_some h
                                    refine rcV 199 0 [.long ((mYy m182 22 y163_7.toNatClampNeg)), .int y113_5, .int y182_8, .int ((mI m182 0 21))] rfl rfl rfl (hSh.k 0 rfl _) (Nat.le_of_ble_eq_true rfl) rfl (e_Mo_given N (by omega) hSh g198) ?_
                                    show RN xs L al (Ev xs L al d) 208 221 [(12, .int r187), (11, .int r186), (9, .long ((mYy m182 22 y163_7.toNatClampNeg))), (0, .ref 0), (1, .int x1), (2, .int x2), (3, .int x3), (4, .int y113_4), (5, .int y113_5), (6, .int y182_6), (7, .int y163_7), (8, .int y182_8)] [.long r198, .int y182_6, .ref 23] (m182, S) (some (.int r0)) (mf, S)
                                    refine rsn 1 (t := (243, [(12, .int r187), (11, .int r186), (9, .long ((mYy m182 22 y163_7.toNatClampNeg))), (0, .ref 0), (1, .int x1), (2, .int x2), (3, .int x3), (4, .int y113_4), (5, .int y113_5), (6, .int y182_6), (7, .int y163_7), (8, .int y182_8)], [.long r198, .int y182_6, .ref 23])) rfl ?_
                                    exact rsub [(0, .ref 0), (1, .int x1), (2, .int x2), (3, .int x3), (4, .int y113_4), (5, .int y113_5), (6, .int y182_6), (7, .int y163_7), (8, .int y182_8)] ⟨rfl, ⟨rfl, ⟨rfl, ⟨rfl, ⟨rfl, ⟨rfl, ⟨rfl, ⟨rfl, ⟨rfl, trivial⟩⟩⟩⟩⟩⟩⟩⟩⟩ ⟨rfl, ⟨rfl, ⟨rfl, ⟨rfl, ⟨rfl, ⟨rfl, ⟨rfl, ⟨rfl, ⟨rfl, trivial⟩⟩⟩⟩⟩⟩⟩⟩⟩ (jp243 r198 h)
                                  · rw [if_neg c195] at h
                                    refine rjt (a := (224, [(12, .int r187), (11, .int r186), (9, .long ((mYy m182 22 y163_7.toNatClampNeg))), (0, .ref 0), (1, .int x1), (2, .int x2), (3, .int x3), (4, .int y113_4), (5, .int y113_5), (6, .int y182_6), (7, .int y163_7), (8, .int y182_8)], [.int y182_6, .ref 23])) (b := (207, [(12, .int r187), (11, .int r186), (9, .long ((mYy m182 22 y163_7.toNatClampNeg))), (0, .ref 0), (1, .int x1), (2, .int x2), (3, .int x3), (4, .int y113_4), (5, .int y113_5), (6, .int y182_6), (7, .int y163_7), (8, .int y182_8)], [.int y182_6, .ref 23])) rfl rfl c195 ?_
                                    refine rsn 6 (t := (234, [(12, .int r187), (11, .int r186), (9, .long ((mYy m182 22 y163_7.toNatClampNeg))), (0, .ref 0), (1, .int x1), (2, .int x2), (3, .int x3), (4, .int y113_4), (5, .int y113_5), (6, .int y182_6), (7, .int y163_7), (8, .int y182_8)], [.int y113_5, .int x1, .int r187, .long ((mYy m182 22 y163_7.toNatClampNeg)), .ref 0, .long ((mYy m182 22 y163_7.toNatClampNeg)), .int y182_6, .ref 23])) rfl ?_
                                    obtain ⟨r196, g196, h⟩ := b1_some h
                                    refine rcV 209 0 [.long ((mYy m182 22 y163_7.toNatClampNeg)), .int r187, .int x1, .int y113_5] rfl rfl rfl (hSh.k 0 rfl _) (Nat.le_of_ble_eq_true rfl) rfl (e_Mo_goesTo N (by omega) hSh g196) ?_
                                    show RN xs L al (Ev xs L al d) 208 237 [(12, .int r187), (11, .int r186), (9, .long ((mYy m182 22 y163_7.toNatClampNeg))), (0, .ref 0), (1, .int x1), (2, .int x2), (3, .int x3), (4, .int y113_4), (5, .int y113_5), (6, .int y182_6), (7, .int y163_7), (8, .int y182_8)] [.int r196, .long ((mYy m182 22 y163_7.toNatClampNeg)), .int y182_6, .ref 23] (m182, S) (some (.int r0)) (mf, S)
                                    refine rsn 1 (t := (239, [(12, .int r187), (11, .int r186), (9, .long ((mYy m182 22 y163_7.toNatClampNeg))), (0, .ref 0), (1, .int x1), (2, .int x2), (3, .int x3), (4, .int y113_4), (5, .int y113_5), (6, .int y182_6), (7, .int y163_7), (8, .int y182_8)], [.int r187, .int r196, .long ((mYy m182 22 y163_7.toNatClampNeg)), .int y182_6, .ref 23])) rfl ?_
                                    obtain ⟨r197, g197, h⟩ := b1_some h
                                    refine rcS 182 [.int r196, .int r187] rfl rfl rfl (Nat.le_of_ble_eq_true rfl) rfl (e_Mo_one N (by omega) g197) ?_
                                    show RN xs L al (Ev xs L al d) 208 242 [(12, .int r187), (11, .int r186), (9, .long ((mYy m182 22 y163_7.toNatClampNeg))), (0, .ref 0), (1, .int x1), (2, .int x2), (3, .int x3), (4, .int y113_4), (5, .int y113_5), (6, .int y182_6), (7, .int y163_7), (8, .int y182_8)] [.long r197, .long ((mYy m182 22 y163_7.toNatClampNeg)), .int y182_6, .ref 23] (m182, S) (some (.int r0)) (mf, S)
                                    refine rsn 1 (t := (243, [(12, .int r187), (11, .int r186), (9, .long ((mYy m182 22 y163_7.toNatClampNeg))), (0, .ref 0), (1, .int x1), (2, .int x2), (3, .int x3), (4, .int y113_4), (5, .int y113_5), (6, .int y182_6), (7, .int y163_7), (8, .int y182_8)], [.long ((((mYy m182 22 y163_7.toNatClampNeg)) + r197)), .int y182_6, .ref 23])) rfl ?_
                                    exact rsub [(0, .ref 0), (1, .int x1), (2, .int x2), (3, .int x3), (4, .int y113_4), (5, .int y113_5), (6, .int y182_6), (7, .int y163_7), (8, .int y182_8)] ⟨rfl, ⟨rfl, ⟨rfl, ⟨rfl, ⟨rfl, ⟨rfl, ⟨rfl, ⟨rfl, ⟨rfl, trivial⟩⟩⟩⟩⟩⟩⟩⟩⟩ ⟨rfl, ⟨rfl, ⟨rfl, ⟨rfl, ⟨rfl, ⟨rfl, ⟨rfl, ⟨rfl, ⟨rfl, trivial⟩⟩⟩⟩⟩⟩⟩⟩⟩ (jp243 ((((mYy m182 22 y163_7.toNatClampNeg)) + r197)) h)
                        exact rsub [(0, .ref 0), (1, .int x1), (2, .int x2), (3, .int x3), (4, .int y113_4), (5, .int y113_5), (6, .int y163_6), (7, .int y163_7), (8, .int 0)] ⟨rfl, ⟨rfl, ⟨rfl, ⟨rfl, ⟨rfl, ⟨rfl, ⟨rfl, ⟨rfl, ⟨rfl, trivial⟩⟩⟩⟩⟩⟩⟩⟩⟩ ⟨rfl, ⟨rfl, ⟨rfl, ⟨rfl, ⟨rfl, ⟨rfl, ⟨rfl, ⟨rfl, ⟨rfl, trivial⟩⟩⟩⟩⟩⟩⟩⟩⟩ (lp108 N y163_6 0 m163 h)
                  exact rsub [(0, .ref 0), (1, .int x1), (2, .int x2), (3, .int x3), (4, .int y113_4), (5, .int y113_5), (6, .int 0), (7, .int 0)] ⟨rfl, ⟨rfl, ⟨rfl, ⟨rfl, ⟨rfl, ⟨rfl, ⟨rfl, ⟨rfl, trivial⟩⟩⟩⟩⟩⟩⟩⟩ ⟨rfl, ⟨rfl, ⟨rfl, ⟨rfl, ⟨rfl, ⟨rfl, ⟨rfl, ⟨rfl, trivial⟩⟩⟩⟩⟩⟩⟩⟩ (lp98 N 0 0 m113 h)
            exact rsub [(0, .ref 0), (1, .int x1), (2, .int x2), (3, .int x3), (4, .int 1), (5, .int 0)] ⟨rfl, ⟨rfl, ⟨rfl, ⟨rfl, ⟨rfl, ⟨rfl, trivial⟩⟩⟩⟩⟩⟩ ⟨rfl, ⟨rfl, ⟨rfl, ⟨rfl, ⟨rfl, ⟨rfl, trivial⟩⟩⟩⟩⟩⟩ (lp78 N 1 0 (vY (vY m7 22 ((0 : Int32).toNatClampNeg) ((mJ m7 0 23))) 24 ((0 : Int32).toNatClampNeg) 1) h)
          rw [jn] at h
          try dsimp only at h
          by_cases c199 : x1 = 4
          · rw [if_pos c199] at h
            refine rjf (a := (55, [(0, .ref 0), (1, .int x1), (2, .int x2), (3, .int x3)], [])) (b := (40, [(0, .ref 0), (1, .int x1), (2, .int x2), (3, .int x3)], [])) rfl rfl (fun q => q c199) ?_
            refine rsn 4 (t := (44, [(0, .ref 0), (1, .int x1), (2, .int x2), (3, .int x3)], [.ref 0, .int 0, .int 0, .ref 0])) rfl ?_
            refine pgI rfl rfl rfl (hSh.k 0 rfl _) ?_
            show RN xs L al (Ev xs L al d) 208 47 [(0, .ref 0), (1, .int x1), (2, .int x2), (3, .int x3)] [.int ((mI m 0 21)), .int 0, .int 0, .ref 0] (m, S) (some (.int r0)) (mf, S)
            refine rsn 1 (t := (48, [(0, .ref 0), (1, .int x1), (2, .int x2), (3, .int x3)], [.ref 0, .int ((mI m 0 21)), .int 0, .int 0, .ref 0])) rfl ?_
            refine pgI rfl rfl rfl (hSh.k 0 rfl _) ?_
            show RN xs L al (Ev xs L al d) 208 51 [(0, .ref 0), (1, .int x1), (2, .int x2), (3, .int x3)] [.int ((mI m 0 22)), .int ((mI m 0 21)), .int 0, .int 0, .ref 0] (m, S) (some (.int r0)) (mf, S)
            obtain ⟨r200, m200, g200, h⟩ := b2_some h
            refine rcV 193 0 [.int 0, .int 0, .int ((mI m 0 21)), .int ((mI m 0 22))] rfl rfl rfl (hSh.k 0 rfl _) (Nat.le_of_ble_eq_true rfl) rfl (e_Mo_solved N (by omega) hSh g200) ?_
            show RN xs L al (Ev xs L al d) 208 54 [(0, .ref 0), (1, .int x1), (2, .int x2), (3, .int x3)] [.long r200] (m200, S) (some (.int r0)) (mf, S)
            refine rsn 1 (t := (55, [(0, .ref 0), (1, .int x1), (2, .int x2), (3, .int x3)], [])) rfl ?_
            exact rsub [(0, .ref 0), (1, .int x1), (2, .int x2), (3, .int x3)] ⟨rfl, ⟨rfl, ⟨rfl, ⟨rfl, trivial⟩⟩⟩⟩ ⟨rfl, ⟨rfl, ⟨rfl, ⟨rfl, trivial⟩⟩⟩⟩ (jp55 m200 h)
          · rw [if_neg c199] at h
            refine rjt (a := (55, [(0, .ref 0), (1, .int x1), (2, .int x2), (3, .int x3)], [])) (b := (40, [(0, .ref 0), (1, .int x1), (2, .int x2), (3, .int x3)], [])) rfl rfl c199 ?_
            exact rsub [(0, .ref 0), (1, .int x1), (2, .int x2), (3, .int x3)] ⟨rfl, ⟨rfl, ⟨rfl, ⟨rfl, trivial⟩⟩⟩⟩ ⟨rfl, ⟨rfl, ⟨rfl, ⟨rfl, trivial⟩⟩⟩⟩ (jp55 m h)
        · rw [if_neg c6] at h
          refine rjf (a := (35, [(0, .ref 0), (1, .int x1), (2, .int x2), (3, .int x3)], [])) (b := (31, [(0, .ref 0), (1, .int x1), (2, .int x2), (3, .int x3)], [])) rfl rfl c6 ?_
          refine rsn 1 (t := (34, [(0, .ref 0), (1, .int x1), (2, .int x2), (3, .int x3)], [.int ((-2147483648))])) rfl ?_
          cases h
          exact rret rfl ⟨rfl, rfl, _, _, rfl, rfl, rfl, rfl⟩
def f_Mo_mended (N : Nat) (x1 : Int32) (x2 : Int32) (m : Mm) : Option (Int32 × Mm) := (if ((mI m 0 15)) = 0 then some ((-1), m) else b1 (f_Mo_isGoal N x1) fun r2 => (if r2 = 0 then some ((-1), m) else b1 (f_Mo_in N x2 0 1) fun r4 => (if r4 = 0 then some ((-1), m) else b2 (f_Mo_solved N x1 0 ((mI m 0 21)) ((mI m 0 22)) m) fun r6 m6 => (jn (fun (s7 : Int32) => (if x2 = 1 then b2 (f_Mo_solved N x1 0 s7 ((((mI m6 0 22)) + 1)) m6) fun r10 m10 => some (((r10 - r6)).toInt32, m10) else b2 (f_Mo_solved N x1 0 s7 ((mI m6 0 22)) m6) fun r9 m9 => some (((r9 - r6)).toInt32, m9))) (fun j60 => if x2 = 0 then j60 ((((mI m6 0 21)) + 1)) else j60 ((mI m6 0 21)))))))
set_option maxRecDepth 20000 in
set_option maxHeartbeats 4000000 in
theorem e_Mo_mended {xs : Nat → Int32} {L : Nat} {al : Bool} (N : Nat) {d : Nat} (hd : 9 ≤ d) {S : St} (hSh : ShR S) {x1 : Int32} {x2 : Int32} {m : Mm} {r0 : Int32} {mf : Mm} (h : f_Mo_mended N x1 x2 m = some (r0, mf)) : Ev xs L al d 212 [.ref 0, .int x1, .int x2] (m, S) (some (.int r0)) (mf, S) := by
  obtain ⟨d, rfl⟩ : ∃ e, d = e + 1 := ⟨d - 1, by omega⟩
  refine ev_of (by decide) (Nat.le_of_ble_eq_true rfl) ?_
  rw [f_Mo_mended] at h
  show RN xs L al (Ev xs L al d) 212 0 [(0, .ref 0), (1, .int x1), (2, .int x2)] [] (m, S) (some (.int r0)) (mf, S)
  refine rsn 1 (t := (1, [(0, .ref 0), (1, .int x1), (2, .int x2)], [.ref 0])) rfl ?_
  refine pgI rfl rfl rfl (hSh.k 0 rfl _) ?_
  show RN xs L al (Ev xs L al d) 212 4 [(0, .ref 0), (1, .int x1), (2, .int x2)] [.int ((mI m 0 15))] (m, S) (some (.int r0)) (mf, S)
  by_cases c1 : ((mI m 0 15)) = 0
  · rw [if_pos c1] at h
    refine rjt (a := (23, [(0, .ref 0), (1, .int x1), (2, .int x2)], [])) (b := (7, [(0, .ref 0), (1, .int x1), (2, .int x2)], [])) rfl rfl c1 ?_
    refine rsn 1 (t := (24, [(0, .ref 0), (1, .int x1), (2, .int x2)], [.int ((-1))])) rfl ?_
    cases h
    exact rret rfl ⟨rfl, rfl, _, _, rfl, rfl, rfl, rfl⟩
  · rw [if_neg c1] at h
    refine rjf (a := (23, [(0, .ref 0), (1, .int x1), (2, .int x2)], [])) (b := (7, [(0, .ref 0), (1, .int x1), (2, .int x2)], [])) rfl rfl c1 ?_
    refine rsn 1 (t := (8, [(0, .ref 0), (1, .int x1), (2, .int x2)], [.int x1])) rfl ?_
    obtain ⟨r2, g2, h⟩ := b1_some h
    refine rcS 184 [.int x1] rfl rfl rfl (Nat.le_of_ble_eq_true rfl) rfl (e_Mo_isGoal N (by omega) g2) ?_
    show RN xs L al (Ev xs L al d) 212 11 [(0, .ref 0), (1, .int x1), (2, .int x2)] [.int r2] (m, S) (some (.int r0)) (mf, S)
    by_cases c3 : r2 = 0
    · rw [if_pos c3] at h
      refine rjt (a := (23, [(0, .ref 0), (1, .int x1), (2, .int x2)], [])) (b := (14, [(0, .ref 0), (1, .int x1), (2, .int x2)], [])) rfl rfl c3 ?_
      refine rsn 1 (t := (24, [(0, .ref 0), (1, .int x1), (2, .int x2)], [.int ((-1))])) rfl ?_
      cases h
      exact rret rfl ⟨rfl, rfl, _, _, rfl, rfl, rfl, rfl⟩
    · rw [if_neg c3] at h
      refine rjf (a := (23, [(0, .ref 0), (1, .int x1), (2, .int x2)], [])) (b := (14, [(0, .ref 0), (1, .int x1), (2, .int x2)], [])) rfl rfl c3 ?_
      refine rsn 3 (t := (17, [(0, .ref 0), (1, .int x1), (2, .int x2)], [.int 1, .int 0, .int x2])) rfl ?_
      obtain ⟨r4, g4, h⟩ := b1_some h
      refine rcS 146 [.int x2, .int 0, .int 1] rfl rfl rfl (Nat.le_of_ble_eq_true rfl) rfl (e_Mo_in N (by omega) g4) ?_
      show RN xs L al (Ev xs L al d) 212 20 [(0, .ref 0), (1, .int x1), (2, .int x2)] [.int r4] (m, S) (some (.int r0)) (mf, S)
      by_cases c5 : r4 = 0
      · rw [if_pos c5] at h
        refine rjf (a := (25, [(0, .ref 0), (1, .int x1), (2, .int x2)], [])) (b := (23, [(0, .ref 0), (1, .int x1), (2, .int x2)], [])) rfl rfl (fun q => q c5) ?_
        refine rsn 1 (t := (24, [(0, .ref 0), (1, .int x1), (2, .int x2)], [.int ((-1))])) rfl ?_
        cases h
        exact rret rfl ⟨rfl, rfl, _, _, rfl, rfl, rfl, rfl⟩
      · rw [if_neg c5] at h
        refine rjt (a := (25, [(0, .ref 0), (1, .int x1), (2, .int x2)], [])) (b := (23, [(0, .ref 0), (1, .int x1), (2, .int x2)], [])) rfl rfl c5 ?_
        refine rsn 4 (t := (29, [(0, .ref 0), (1, .int x1), (2, .int x2)], [.ref 0, .int 0, .int x1, .ref 0])) rfl ?_
        refine pgI rfl rfl rfl (hSh.k 0 rfl _) ?_
        show RN xs L al (Ev xs L al d) 212 32 [(0, .ref 0), (1, .int x1), (2, .int x2)] [.int ((mI m 0 21)), .int 0, .int x1, .ref 0] (m, S) (some (.int r0)) (mf, S)
        refine rsn 1 (t := (33, [(0, .ref 0), (1, .int x1), (2, .int x2)], [.ref 0, .int ((mI m 0 21)), .int 0, .int x1, .ref 0])) rfl ?_
        refine pgI rfl rfl rfl (hSh.k 0 rfl _) ?_
        show RN xs L al (Ev xs L al d) 212 36 [(0, .ref 0), (1, .int x1), (2, .int x2)] [.int ((mI m 0 22)), .int ((mI m 0 21)), .int 0, .int x1, .ref 0] (m, S) (some (.int r0)) (mf, S)
        obtain ⟨r6, m6, g6, h⟩ := b2_some h
        refine rcV 193 0 [.int x1, .int 0, .int ((mI m 0 21)), .int ((mI m 0 22))] rfl rfl rfl (hSh.k 0 rfl _) (Nat.le_of_ble_eq_true rfl) rfl (e_Mo_solved N (by omega) hSh g6) ?_
        show RN xs L al (Ev xs L al d) 212 39 [(0, .ref 0), (1, .int x1), (2, .int x2)] [.long r6] (m6, S) (some (.int r0)) (mf, S)
        refine rsn 5 (t := (44, [(3, .long r6), (0, .ref 0), (1, .int x1), (2, .int x2)], [.int x2, .int 0, .int x1, .ref 0])) rfl ?_
        have jp60 : ∀ (s7 : Int32), ((if x2 = 1 then b2 (f_Mo_solved N x1 0 s7 ((((mI m6 0 22)) + 1)) m6) fun r10 m10 => some (((r10 - r6)).toInt32, m10) else b2 (f_Mo_solved N x1 0 s7 ((mI m6 0 22)) m6) fun r9 m9 => some (((r9 - r6)).toInt32, m9))) = some (r0, mf) → RN xs L al (Ev xs L al d) 212 60 [(0, .ref 0), (2, .int x2), (3, .long r6)] [.int s7, .int 0, .int x1, .ref 0] (m6, S) (some (.int r0)) (mf, S) := by
          intro s7 h
          try dsimp only at h
          refine rsn 2 (t := (62, [(0, .ref 0), (2, .int x2), (3, .long r6)], [.int 1, .int x2, .int s7, .int 0, .int x1, .ref 0])) rfl ?_
          by_cases c8 : x2 = 1
          · rw [if_pos c8] at h
            refine rjf (a := (74, [(0, .ref 0), (2, .int x2), (3, .long r6)], [.int s7, .int 0, .int x1, .ref 0])) (b := (65, [(0, .ref 0), (2, .int x2), (3, .long r6)], [.int s7, .int 0, .int x1, .ref 0])) rfl rfl (fun q => q c8) ?_
            refine rsn 1 (t := (66, [(0, .ref 0), (2, .int x2), (3, .long r6)], [.ref 0, .int s7, .int 0, .int x1, .ref 0])) rfl ?_
            refine pgI rfl rfl rfl (hSh.k 0 rfl _) ?_
            show RN xs L al (Ev xs L al d) 212 69 [(0, .ref 0), (2, .int x2), (3, .long r6)] [.int ((mI m6 0 22)), .int s7, .int 0, .int x1, .ref 0] (m6, S) (some (.int r0)) (mf, S)
            refine rsn 3 (t := (78, [(0, .ref 0), (2, .int x2), (3, .long r6)], [.int ((((mI m6 0 22)) + 1)), .int s7, .int 0, .int x1, .ref 0])) rfl ?_
            obtain ⟨r10, m10, g10, h⟩ := b2_some h
            refine rcV 193 0 [.int x1, .int 0, .int s7, .int ((((mI m6 0 22)) + 1))] rfl rfl rfl (hSh.k 0 rfl _) (Nat.le_of_ble_eq_true rfl) rfl (e_Mo_solved N (by omega) hSh g10) ?_
            show RN xs L al (Ev xs L al d) 212 81 [(0, .ref 0), (2, .int x2), (3, .long r6)] [.long r10] (m10, S) (some (.int r0)) (mf, S)
            refine rsn 3 (t := (84, [(0, .ref 0), (2, .int x2), (3, .long r6)], [.int (((r10 - r6)).toInt32)])) rfl ?_
            cases h
            exact rret rfl ⟨rfl, rfl, _, _, rfl, rfl, rfl, rfl⟩
          · rw [if_neg c8] at h
            refine rjt (a := (74, [(0, .ref 0), (2, .int x2), (3, .long r6)], [.int s7, .int 0, .int x1, .ref 0])) (b := (65, [(0, .ref 0), (2, .int x2), (3, .long r6)], [.int s7, .int 0, .int x1, .ref 0])) rfl rfl c8 ?_
            refine rsn 1 (t := (75, [(0, .ref 0), (2, .int x2), (3, .long r6)], [.ref 0, .int s7, .int 0, .int x1, .ref 0])) rfl ?_
            refine pgI rfl rfl rfl (hSh.k 0 rfl _) ?_
            show RN xs L al (Ev xs L al d) 212 78 [(0, .ref 0), (2, .int x2), (3, .long r6)] [.int ((mI m6 0 22)), .int s7, .int 0, .int x1, .ref 0] (m6, S) (some (.int r0)) (mf, S)
            obtain ⟨r9, m9, g9, h⟩ := b2_some h
            refine rcV 193 0 [.int x1, .int 0, .int s7, .int ((mI m6 0 22))] rfl rfl rfl (hSh.k 0 rfl _) (Nat.le_of_ble_eq_true rfl) rfl (e_Mo_solved N (by omega) hSh g9) ?_
            show RN xs L al (Ev xs L al d) 212 81 [(0, .ref 0), (2, .int x2), (3, .long r6)] [.long r9] (m9, S) (some (.int r0)) (mf, S)
            refine rsn 3 (t := (84, [(0, .ref 0), (2, .int x2), (3, .long r6)], [.int (((r9 - r6)).toInt32)])) rfl ?_
            cases h
            exact rret rfl ⟨rfl, rfl, _, _, rfl, rfl, rfl, rfl⟩
        rw [jn] at h
        try dsimp only at h
        by_cases c11 : x2 = 0
        · rw [if_pos c11] at h
          refine rjf (a := (56, [(3, .long r6), (0, .ref 0), (1, .int x1), (2, .int x2)], [.int 0, .int x1, .ref 0])) (b := (47, [(3, .long r6), (0, .ref 0), (1, .int x1), (2, .int x2)], [.int 0, .int x1, .ref 0])) rfl rfl (fun q => q c11) ?_
          refine rsn 1 (t := (48, [(3, .long r6), (0, .ref 0), (1, .int x1), (2, .int x2)], [.ref 0, .int 0, .int x1, .ref 0])) rfl ?_
          refine pgI rfl rfl rfl (hSh.k 0 rfl _) ?_
          show RN xs L al (Ev xs L al d) 212 51 [(3, .long r6), (0, .ref 0), (1, .int x1), (2, .int x2)] [.int ((mI m6 0 21)), .int 0, .int x1, .ref 0] (m6, S) (some (.int r0)) (mf, S)
          refine rsn 3 (t := (60, [(3, .long r6), (0, .ref 0), (1, .int x1), (2, .int x2)], [.int ((((mI m6 0 21)) + 1)), .int 0, .int x1, .ref 0])) rfl ?_
          exact rsub [(0, .ref 0), (2, .int x2), (3, .long r6)] ⟨rfl, ⟨rfl, ⟨rfl, trivial⟩⟩⟩ ⟨rfl, ⟨rfl, ⟨rfl, trivial⟩⟩⟩ (jp60 ((((mI m6 0 21)) + 1)) h)
        · rw [if_neg c11] at h
          refine rjt (a := (56, [(3, .long r6), (0, .ref 0), (1, .int x1), (2, .int x2)], [.int 0, .int x1, .ref 0])) (b := (47, [(3, .long r6), (0, .ref 0), (1, .int x1), (2, .int x2)], [.int 0, .int x1, .ref 0])) rfl rfl c11 ?_
          refine rsn 1 (t := (57, [(3, .long r6), (0, .ref 0), (1, .int x1), (2, .int x2)], [.ref 0, .int 0, .int x1, .ref 0])) rfl ?_
          refine pgI rfl rfl rfl (hSh.k 0 rfl _) ?_
          show RN xs L al (Ev xs L al d) 212 60 [(3, .long r6), (0, .ref 0), (1, .int x1), (2, .int x2)] [.int ((mI m6 0 21)), .int 0, .int x1, .ref 0] (m6, S) (some (.int r0)) (mf, S)
          exact rsub [(0, .ref 0), (2, .int x2), (3, .long r6)] ⟨rfl, ⟨rfl, ⟨rfl, trivial⟩⟩⟩ ⟨rfl, ⟨rfl, ⟨rfl, trivial⟩⟩⟩ (jp60 ((mI m6 0 21)) h)
def f_Mo_paper_L39 (N : Nat) (x1 : Int32) (x2 : Int32) (x4 : Int32) (m : Mm) (k39 : Int32 → Int32 → Option (Int32)) : Nat → Int32 → Int32 → Option (Int32)
  | 0, _, _ => none
  | n39 + 1, x3, x5 => ck (ix x4 6) ((if ((mX m 8 x4.toNatClampNeg)) ≤ x5 then k39 x3 x5 else b1 (f_Mo_altOf N x4 x5 1 m) fun r8 => (if r8 = 0 then b1 (f_Mo_altOf N x4 x5 2 m) fun r10 => (if r10 = x2 then b1 (f_Mo_altOf N x4 x5 0 m) fun r12 => f_Mo_paper_L39 N x1 x2 x4 m k39 n39 ((x3 + r12)) ((x5 + 1)) else f_Mo_paper_L39 N x1 x2 x4 m k39 n39 x3 ((x5 + 1))) else f_Mo_paper_L39 N x1 x2 x4 m k39 n39 x3 ((x5 + 1)))))
def f_Mo_paper_L27 (N : Nat) (x1 : Int32) (x2 : Int32) (m : Mm) (k27 : Int32 → Int32 → Option (Int32)) : Nat → Int32 → Int32 → Option (Int32)
  | 0, _, _ => none
  | n27 + 1, x3, x4 => (if ((mI m 0 18)) ≤ x4 then k27 x3 x4 else f_Mo_paper_L39 N x1 x2 x4 m (fun (z13_3 : Int32) (z13_5 : Int32) => f_Mo_paper_L27 N x1 x2 m k27 n27 z13_3 ((x4 + 1))) N x3 0)
def f_Mo_paper (N : Nat) (x1 : Int32) (x2 : Int32) (m : Mm) : Option (Int32) := b1 (f_Mo_isHeir N x1 m) fun r1 => (if r1 = 0 then some ((-1)) else b1 (f_Mo_in N x2 0 2) fun r3 => (if r3 = 0 then some ((-1)) else f_Mo_paper_L27 N x1 x2 m (fun (z22_3 : Int32) (z22_4 : Int32) => ck (ix ((((3 * x1)) + x2)) 9) (some ((z22_3 * ((mX m 7 (((((3 * x1)) + x2)).toNatClampNeg))))))) N 0 ((mI m 0 24))))
set_option maxRecDepth 20000 in
set_option maxHeartbeats 4000000 in
theorem e_Mo_paper {xs : Nat → Int32} {L : Nat} {al : Bool} (N : Nat) {d : Nat} (hd : 3 ≤ d) {S : St} (hSh : ShR S) {x1 : Int32} {x2 : Int32} {m : Mm} {r0 : Int32} (h : f_Mo_paper N x1 x2 m = some r0) : Ev xs L al d 213 [.ref 0, .int x1, .int x2] (m, S) (some (.int r0)) (m, S) := by
  obtain ⟨d, rfl⟩ : ∃ e, d = e + 1 := ⟨d - 1, by omega⟩
  refine ev_of (by decide) (Nat.le_of_ble_eq_true rfl) ?_
  rw [f_Mo_paper] at h
  show RN xs L al (Ev xs L al d) 213 0 [(0, .ref 0), (1, .int x1), (2, .int x2)] [] (m, S) (some (.int r0)) (m, S)
  refine rsn 2 (t := (2, [(0, .ref 0), (1, .int x1), (2, .int x2)], [.int x1, .ref 0])) rfl ?_
  obtain ⟨r1, g1, h⟩ := b1_some h
  refine rcV 172 0 [.int x1] rfl rfl rfl (hSh.k 0 rfl _) (Nat.le_of_ble_eq_true rfl) rfl (e_Mo_isHeir N (by omega) hSh g1) ?_
  show RN xs L al (Ev xs L al d) 213 5 [(0, .ref 0), (1, .int x1), (2, .int x2)] [.int r1] (m, S) (some (.int r0)) (m, S)
  by_cases c2 : r1 = 0
  · rw [if_pos c2] at h
    refine rjt (a := (17, [(0, .ref 0), (1, .int x1), (2, .int x2)], [])) (b := (8, [(0, .ref 0), (1, .int x1), (2, .int x2)], [])) rfl rfl c2 ?_
    refine rsn 1 (t := (18, [(0, .ref 0), (1, .int x1), (2, .int x2)], [.int ((-1))])) rfl ?_
    cases h
    exact rret rfl ⟨rfl, rfl, _, _, rfl, rfl, rfl, rfl⟩
  · rw [if_neg c2] at h
    refine rjf (a := (17, [(0, .ref 0), (1, .int x1), (2, .int x2)], [])) (b := (8, [(0, .ref 0), (1, .int x1), (2, .int x2)], [])) rfl rfl c2 ?_
    refine rsn 3 (t := (11, [(0, .ref 0), (1, .int x1), (2, .int x2)], [.int 2, .int 0, .int x2])) rfl ?_
    obtain ⟨r3, g3, h⟩ := b1_some h
    refine rcS 146 [.int x2, .int 0, .int 2] rfl rfl rfl (Nat.le_of_ble_eq_true rfl) rfl (e_Mo_in N (by omega) g3) ?_
    show RN xs L al (Ev xs L al d) 213 14 [(0, .ref 0), (1, .int x1), (2, .int x2)] [.int r3] (m, S) (some (.int r0)) (m, S)
    by_cases c4 : r3 = 0
    · rw [if_pos c4] at h
      refine rjf (a := (19, [(0, .ref 0), (1, .int x1), (2, .int x2)], [])) (b := (17, [(0, .ref 0), (1, .int x1), (2, .int x2)], [])) rfl rfl (fun q => q c4) ?_
      refine rsn 1 (t := (18, [(0, .ref 0), (1, .int x1), (2, .int x2)], [.int ((-1))])) rfl ?_
      cases h
      exact rret rfl ⟨rfl, rfl, _, _, rfl, rfl, rfl, rfl⟩
    · rw [if_neg c4] at h
      refine rjt (a := (19, [(0, .ref 0), (1, .int x1), (2, .int x2)], [])) (b := (17, [(0, .ref 0), (1, .int x1), (2, .int x2)], [])) rfl rfl c4 ?_
      refine rsn 3 (t := (22, [(3, .int 0), (0, .ref 0), (1, .int x1), (2, .int x2)], [.ref 0])) rfl ?_
      refine pgI rfl rfl rfl (hSh.k 0 rfl _) ?_
      show RN xs L al (Ev xs L al d) 213 25 [(3, .int 0), (0, .ref 0), (1, .int x1), (2, .int x2)] [.int ((mI m 0 24))] (m, S) (some (.int r0)) (m, S)
      refine rsn 1 (t := (27, [(4, .int ((mI m 0 24))), (3, .int 0), (0, .ref 0), (1, .int x1), (2, .int x2)], [])) rfl ?_
      have ex27 : ∀ (z22_3 : Int32) (z22_4 : Int32), (ck (ix ((((3 * x1)) + x2)) 9) (some ((z22_3 * ((mX m 7 (((((3 * x1)) + x2)).toNatClampNeg))))))) = some r0 → RN xs L al (Ev xs L al d) 213 100 [(0, .ref 0), (1, .int x1), (2, .int x2), (3, .int z22_3)] [] (m, S) (some (.int r0)) (m, S) := by
        intro z22_3 z22_4 h
        try dsimp only at h
        refine rsn 2 (t := (102, [(0, .ref 0), (1, .int x1), (2, .int x2), (3, .int z22_3)], [.ref 0, .int z22_3])) rfl ?_
        refine rgR rfl rfl rfl (hSh.k 0 rfl _) (hSh.r 6 rfl _) ?_
        refine rsn 5 (t := (110, [(0, .ref 0), (1, .int x1), (2, .int x2), (3, .int z22_3)], [.int ((((3 * x1)) + x2)), .ref 7, .int z22_3])) rfl ?_
        obtain ⟨c23, h⟩ := ck_some h
        refine pxI rfl (hSh.k 7 rfl _) (hSh.l 6 rfl _) c23 ?_
        show RN xs L al (Ev xs L al d) 213 111 [(0, .ref 0), (1, .int x1), (2, .int x2), (3, .int z22_3)] [.int ((mX m 7 (((((3 * x1)) + x2)).toNatClampNeg))), .int z22_3] (m, S) (some (.int r0)) (m, S)
        refine rsn 1 (t := (112, [(0, .ref 0), (1, .int x1), (2, .int x2), (3, .int z22_3)], [.int ((z22_3 * ((mX m 7 (((((3 * x1)) + x2)).toNatClampNeg)))))])) rfl ?_
        cases h
        exact rret rfl ⟨rfl, rfl, _, _, rfl, rfl, rfl, rfl⟩
      have lp27 : ∀ (n : Nat) (y24_3 : Int32) (y24_4 : Int32), (f_Mo_paper_L27 N x1 x2 m (fun (z22_3 : Int32) (z22_4 : Int32) => ck (ix ((((3 * x1)) + x2)) 9) (some ((z22_3 * ((mX m 7 (((((3 * x1)) + x2)).toNatClampNeg))))))) n y24_3 y24_4) = some r0 → RN xs L al (Ev xs L al d) 213 27 [(0, .ref 0), (1, .int x1), (2, .int x2), (3, .int y24_3), (4, .int y24_4)] [] (m, S) (some (.int r0)) (m, S) := by
        intro n
        induction n with
        | zero => intro y24_3 y24_4 h; exact absurd h (by simp [f_Mo_paper_L27])
        | succ n27 ih27 =>
          intro y24_3 y24_4 h
          try dsimp only at h
          rw [f_Mo_paper_L27] at h
          try dsimp only at h
          refine rsn 2 (t := (30, [(0, .ref 0), (1, .int x1), (2, .int x2), (3, .int y24_3), (4, .int y24_4)], [.ref 0, .int y24_4])) rfl ?_
          refine pgI rfl rfl rfl (hSh.k 0 rfl _) ?_
          show RN xs L al (Ev xs L al d) 213 33 [(0, .ref 0), (1, .int x1), (2, .int x2), (3, .int y24_3), (4, .int y24_4)] [.int ((mI m 0 18)), .int y24_4] (m, S) (some (.int r0)) (m, S)
          by_cases c25 : ((mI m 0 18)) ≤ y24_4
          · rw [if_pos c25] at h
            refine rjt (a := (100, [(0, .ref 0), (1, .int x1), (2, .int x2), (3, .int y24_3), (4, .int y24_4)], [])) (b := (36, [(0, .ref 0), (1, .int x1), (2, .int x2), (3, .int y24_3), (4, .int y24_4)], [])) rfl rfl c25 ?_
            exact rsub [(0, .ref 0), (1, .int x1), (2, .int x2), (3, .int y24_3)] ⟨rfl, ⟨rfl, ⟨rfl, ⟨rfl, trivial⟩⟩⟩⟩ ⟨rfl, ⟨rfl, ⟨rfl, ⟨rfl, trivial⟩⟩⟩⟩ (ex27 y24_3 y24_4 h)
          · rw [if_neg c25] at h
            refine rjf (a := (100, [(0, .ref 0), (1, .int x1), (2, .int x2), (3, .int y24_3), (4, .int y24_4)], [])) (b := (36, [(0, .ref 0), (1, .int x1), (2, .int x2), (3, .int y24_3), (4, .int y24_4)], [])) rfl rfl c25 ?_
            refine rsn 2 (t := (39, [(5, .int 0), (0, .ref 0), (1, .int x1), (2, .int x2), (3, .int y24_3), (4, .int y24_4)], [])) rfl ?_
            have ex39 : ∀ (z33_3 : Int32) (z33_5 : Int32), (f_Mo_paper_L27 N x1 x2 m (fun (z22_3 : Int32) (z22_4 : Int32) => ck (ix ((((3 * x1)) + x2)) 9) (some ((z22_3 * ((mX m 7 (((((3 * x1)) + x2)).toNatClampNeg))))))) n27 z33_3 ((y24_4 + 1))) = some r0 → RN xs L al (Ev xs L al d) 213 94 [(0, .ref 0), (1, .int x1), (2, .int x2), (3, .int z33_3), (4, .int y24_4)] [] (m, S) (some (.int r0)) (m, S) := by
              intro z33_3 z33_5 h
              try dsimp only at h
              refine rsn 2 (t := (27, [(4, .int ((y24_4 + 1))), (0, .ref 0), (1, .int x1), (2, .int x2), (3, .int z33_3)], [])) rfl ?_
              exact rsub [(0, .ref 0), (1, .int x1), (2, .int x2), (3, .int z33_3), (4, .int ((y24_4 + 1)))] ⟨rfl, ⟨rfl, ⟨rfl, ⟨rfl, ⟨rfl, trivial⟩⟩⟩⟩⟩ ⟨rfl, ⟨rfl, ⟨rfl, ⟨rfl, ⟨rfl, trivial⟩⟩⟩⟩⟩ (ih27 z33_3 ((y24_4 + 1)) h)
            have lp39 : ∀ (n : Nat) (y34_3 : Int32) (y34_5 : Int32), (f_Mo_paper_L39 N x1 x2 y24_4 m (fun (z33_3 : Int32) (z33_5 : Int32) => f_Mo_paper_L27 N x1 x2 m (fun (z22_3 : Int32) (z22_4 : Int32) => ck (ix ((((3 * x1)) + x2)) 9) (some ((z22_3 * ((mX m 7 (((((3 * x1)) + x2)).toNatClampNeg))))))) n27 z33_3 ((y24_4 + 1))) n y34_3 y34_5) = some r0 → RN xs L al (Ev xs L al d) 213 39 [(0, .ref 0), (1, .int x1), (2, .int x2), (3, .int y34_3), (4, .int y24_4), (5, .int y34_5)] [] (m, S) (some (.int r0)) (m, S) := by
              intro n
              induction n with
              | zero => intro y34_3 y34_5 h; exact absurd h (by simp [f_Mo_paper_L39])
              | succ n39 ih39 =>
                intro y34_3 y34_5 h
                try dsimp only at h
                rw [f_Mo_paper_L39] at h
                try dsimp only at h
                refine rsn 2 (t := (42, [(0, .ref 0), (1, .int x1), (2, .int x2), (3, .int y34_3), (4, .int y24_4), (5, .int y34_5)], [.ref 0, .int y34_5])) rfl ?_
                refine rgR rfl rfl rfl (hSh.k 0 rfl _) (hSh.r 7 rfl _) ?_
                refine rsn 1 (t := (47, [(0, .ref 0), (1, .int x1), (2, .int x2), (3, .int y34_3), (4, .int y24_4), (5, .int y34_5)], [.int y24_4, .ref 8, .int y34_5])) rfl ?_
                obtain ⟨c35, h⟩ := ck_some h
                refine pxI rfl (hSh.k 8 rfl _) (hSh.l 7 rfl _) c35 ?_
                show RN xs L al (Ev xs L al d) 213 48 [(0, .ref 0), (1, .int x1), (2, .int x2), (3, .int y34_3), (4, .int y24_4), (5, .int y34_5)] [.int ((mX m 8 y24_4.toNatClampNeg)), .int y34_5] (m, S) (some (.int r0)) (m, S)
                by_cases c36 : ((mX m 8 y24_4.toNatClampNeg)) ≤ y34_5
                · rw [if_pos c36] at h
                  refine rjt (a := (94, [(0, .ref 0), (1, .int x1), (2, .int x2), (3, .int y34_3), (4, .int y24_4), (5, .int y34_5)], [])) (b := (51, [(0, .ref 0), (1, .int x1), (2, .int x2), (3, .int y34_3), (4, .int y24_4), (5, .int y34_5)], [])) rfl rfl c36 ?_
                  exact rsub [(0, .ref 0), (1, .int x1), (2, .int x2), (3, .int y34_3), (4, .int y24_4)] ⟨rfl, ⟨rfl, ⟨rfl, ⟨rfl, ⟨rfl, trivial⟩⟩⟩⟩⟩ ⟨rfl, ⟨rfl, ⟨rfl, ⟨rfl, ⟨rfl, trivial⟩⟩⟩⟩⟩ (ex39 y34_3 y34_5 h)
                · rw [if_neg c36] at h
                  refine rjf (a := (94, [(0, .ref 0), (1, .int x1), (2, .int x2), (3, .int y34_3), (4, .int y24_4), (5, .int y34_5)], [])) (b := (51, [(0, .ref 0), (1, .int x1), (2, .int x2), (3, .int y34_3), (4, .int y24_4), (5, .int y34_5)], [])) rfl rfl c36 ?_
                  refine rsn 4 (t := (57, [(0, .ref 0), (1, .int x1), (2, .int x2), (3, .int y34_3), (4, .int y24_4), (5, .int y34_5)], [.int 1, .int y34_5, .int y24_4, .ref 0])) rfl ?_
                  obtain ⟨r37, g37, h⟩ := b1_some h
                  refine rcV 177 0 [.int y24_4, .int y34_5, .int 1] rfl rfl rfl (hSh.k 0 rfl _) (Nat.le_of_ble_eq_true rfl) rfl (e_Mo_altOf N (by omega) hSh g37) ?_
                  show RN xs L al (Ev xs L al d) 213 60 [(0, .ref 0), (1, .int x1), (2, .int x2), (3, .int y34_3), (4, .int y24_4), (5, .int y34_5)] [.int r37] (m, S) (some (.int r0)) (m, S)
                  by_cases c38 : r37 = 0
                  · rw [if_pos c38] at h
                    refine rjf (a := (88, [(0, .ref 0), (1, .int x1), (2, .int x2), (3, .int y34_3), (4, .int y24_4), (5, .int y34_5)], [])) (b := (63, [(0, .ref 0), (1, .int x1), (2, .int x2), (3, .int y34_3), (4, .int y24_4), (5, .int y34_5)], [])) rfl rfl (fun q => q c38) ?_
                    refine rsn 4 (t := (69, [(0, .ref 0), (1, .int x1), (2, .int x2), (3, .int y34_3), (4, .int y24_4), (5, .int y34_5)], [.int 2, .int y34_5, .int y24_4, .ref 0])) rfl ?_
                    obtain ⟨r39, g39, h⟩ := b1_some h
                    refine rcV 177 0 [.int y24_4, .int y34_5, .int 2] rfl rfl rfl (hSh.k 0 rfl _) (Nat.le_of_ble_eq_true rfl) rfl (e_Mo_altOf N (by omega) hSh g39) ?_
                    show RN xs L al (Ev xs L al d) 213 72 [(0, .ref 0), (1, .int x1), (2, .int x2), (3, .int y34_3), (4, .int y24_4), (5, .int y34_5)] [.int r39] (m, S) (some (.int r0)) (m, S)
                    refine rsn 1 (t := (73, [(0, .ref 0), (1, .int x1), (2, .int x2), (3, .int y34_3), (4, .int y24_4), (5, .int y34_5)], [.int x2, .int r39])) rfl ?_
                    by_cases c40 : r39 = x2
                    · rw [if_pos c40] at h
                      refine rjf (a := (88, [(0, .ref 0), (1, .int x1), (2, .int x2), (3, .int y34_3), (4, .int y24_4), (5, .int y34_5)], [])) (b := (76, [(0, .ref 0), (1, .int x1), (2, .int x2), (3, .int y34_3), (4, .int y24_4), (5, .int y34_5)], [])) rfl rfl (fun q => q c40) ?_
                      refine rsn 5 (t := (83, [(0, .ref 0), (1, .int x1), (2, .int x2), (3, .int y34_3), (4, .int y24_4), (5, .int y34_5)], [.int 0, .int y34_5, .int y24_4, .ref 0, .int y34_3])) rfl ?_
                      obtain ⟨r41, g41, h⟩ := b1_some h
                      refine rcV 177 0 [.int y24_4, .int y34_5, .int 0] rfl rfl rfl (hSh.k 0 rfl _) (Nat.le_of_ble_eq_true rfl) rfl (e_Mo_altOf N (by omega) hSh g41) ?_
                      show RN xs L al (Ev xs L al d) 213 86 [(0, .ref 0), (1, .int x1), (2, .int x2), (3, .int y34_3), (4, .int y24_4), (5, .int y34_5)] [.int r41, .int y34_3] (m, S) (some (.int r0)) (m, S)
                      refine rsn 4 (t := (39, [(5, .int ((y34_5 + 1))), (3, .int ((y34_3 + r41))), (0, .ref 0), (1, .int x1), (2, .int x2), (4, .int y24_4)], [])) rfl ?_
                      exact rsub [(0, .ref 0), (1, .int x1), (2, .int x2), (3, .int ((y34_3 + r41))), (4, .int y24_4), (5, .int ((y34_5 + 1)))] ⟨rfl, ⟨rfl, ⟨rfl, ⟨rfl, ⟨rfl, ⟨rfl, trivial⟩⟩⟩⟩⟩⟩ ⟨rfl, ⟨rfl, ⟨rfl, ⟨rfl, ⟨rfl, ⟨rfl, trivial⟩⟩⟩⟩⟩⟩ (ih39 ((y34_3 + r41)) ((y34_5 + 1)) h)
                    · rw [if_neg c40] at h
                      refine rjt (a := (88, [(0, .ref 0), (1, .int x1), (2, .int x2), (3, .int y34_3), (4, .int y24_4), (5, .int y34_5)], [])) (b := (76, [(0, .ref 0), (1, .int x1), (2, .int x2), (3, .int y34_3), (4, .int y24_4), (5, .int y34_5)], [])) rfl rfl c40 ?_
                      refine rsn 2 (t := (39, [(5, .int ((y34_5 + 1))), (0, .ref 0), (1, .int x1), (2, .int x2), (3, .int y34_3), (4, .int y24_4)], [])) rfl ?_
                      exact rsub [(0, .ref 0), (1, .int x1), (2, .int x2), (3, .int y34_3), (4, .int y24_4), (5, .int ((y34_5 + 1)))] ⟨rfl, ⟨rfl, ⟨rfl, ⟨rfl, ⟨rfl, ⟨rfl, trivial⟩⟩⟩⟩⟩⟩ ⟨rfl, ⟨rfl, ⟨rfl, ⟨rfl, ⟨rfl, ⟨rfl, trivial⟩⟩⟩⟩⟩⟩ (ih39 y34_3 ((y34_5 + 1)) h)
                  · rw [if_neg c38] at h
                    refine rjt (a := (88, [(0, .ref 0), (1, .int x1), (2, .int x2), (3, .int y34_3), (4, .int y24_4), (5, .int y34_5)], [])) (b := (63, [(0, .ref 0), (1, .int x1), (2, .int x2), (3, .int y34_3), (4, .int y24_4), (5, .int y34_5)], [])) rfl rfl c38 ?_
                    refine rsn 2 (t := (39, [(5, .int ((y34_5 + 1))), (0, .ref 0), (1, .int x1), (2, .int x2), (3, .int y34_3), (4, .int y24_4)], [])) rfl ?_
                    exact rsub [(0, .ref 0), (1, .int x1), (2, .int x2), (3, .int y34_3), (4, .int y24_4), (5, .int ((y34_5 + 1)))] ⟨rfl, ⟨rfl, ⟨rfl, ⟨rfl, ⟨rfl, ⟨rfl, trivial⟩⟩⟩⟩⟩⟩ ⟨rfl, ⟨rfl, ⟨rfl, ⟨rfl, ⟨rfl, ⟨rfl, trivial⟩⟩⟩⟩⟩⟩ (ih39 y34_3 ((y34_5 + 1)) h)
            exact rsub [(0, .ref 0), (1, .int x1), (2, .int x2), (3, .int y24_3), (4, .int y24_4), (5, .int 0)] ⟨rfl, ⟨rfl, ⟨rfl, ⟨rfl, ⟨rfl, ⟨rfl, trivial⟩⟩⟩⟩⟩⟩ ⟨rfl, ⟨rfl, ⟨rfl, ⟨rfl, ⟨rfl, ⟨rfl, trivial⟩⟩⟩⟩⟩⟩ (lp39 N y24_3 0 h)
      exact rsub [(0, .ref 0), (1, .int x1), (2, .int x2), (3, .int 0), (4, .int ((mI m 0 24)))] ⟨rfl, ⟨rfl, ⟨rfl, ⟨rfl, ⟨rfl, trivial⟩⟩⟩⟩⟩ ⟨rfl, ⟨rfl, ⟨rfl, ⟨rfl, ⟨rfl, trivial⟩⟩⟩⟩⟩ (lp27 N 0 ((mI m 0 24)) h)
