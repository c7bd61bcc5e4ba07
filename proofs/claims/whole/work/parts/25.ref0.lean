/-! The reference's methods as functions (printed by wip/whole/gen_fun.py). -/
def f_Mo_feed_L18 (N : Nat) (x1 : Int32) (x2 : Int32) (x3 : Int32) (x4 : Int32) (x5 : Int32) (k18 : Int32 → Mm → Option (Int32 × Mm)) : Nat → Int32 → Mm → Option (Int32 × Mm)
  | 0, _, _ => none
  | n18 + 1, x6, m => (if 20 ≤ x6 then k18 x6 m else (jn (fun (s3 : Int32) => ck (ix ((mI m 0 1)) 400) (f_Mo_feed_L18 N x1 x2 x3 x4 x5 k18 n18 ((x6 + 1)) ((vI (vX m 1 (((mI m 0 1)).toNatClampNeg) ((((isr s3 ((24 - ((8 * ((irm x6 4)))))))).toInt8.toInt32).toInt8.toInt32)) 0 1 ((((mI m 0 1)) + 1)))))) (fun j71 => if 4 ≤ x6 then (if 8 ≤ x6 then (if 12 ≤ x6 then (if 16 ≤ x6 then j71 x5 else j71 x4) else j71 x3) else j71 x2) else j71 x1)))
def f_Mo_feed (N : Nat) (x1 : Int32) (x2 : Int32) (x3 : Int32) (x4 : Int32) (x5 : Int32) (m : Mm) : Option (Int32 × Mm) := (if ((((mI m 0 1)) + 20)) ≤ 400 then f_Mo_feed_L18 N x1 x2 x3 x4 x5 (fun (z9_6 : Int32) (m9 : Mm) => some ((mI m9 0 1), m9)) N 0 m else some ((-1), m))
set_option maxRecDepth 20000 in
set_option maxHeartbeats 4000000 in
theorem e_Mo_feed {xs : Nat → Int32} {L : Nat} {al : Bool} (N : Nat) {d : Nat} (hd : 1 ≤ d) {S : St} (hSh : ShR S) {x1 : Int32} {x2 : Int32} {x3 : Int32} {x4 : Int32} {x5 : Int32} {m : Mm} {r0 : Int32} {mf : Mm} (h : f_Mo_feed N x1 x2 x3 x4 x5 m = some (r0, mf)) : Ev xs L al d 144 [.ref 0, .int x1, .int x2, .int x3, .int x4, .int x5] (m, S) (some (.int r0)) (mf, S) := by
  obtain ⟨d, rfl⟩ : ∃ e, d = e + 1 := ⟨d - 1, by omega⟩
  refine ev_of (by decide) (Nat.le_of_ble_eq_true rfl) ?_
  rw [f_Mo_feed] at h
  show RN xs L al (Ev xs L al d) 144 0 [(0, .ref 0), (1, .int x1), (2, .int x2), (3, .int x3), (4, .int x4), (5, .int x5)] [] (m, S) (some (.int r0)) (mf, S)
  refine rsn 1 (t := (1, [(0, .ref 0), (1, .int x1), (2, .int x2), (3, .int x3), (4, .int x4), (5, .int x5)], [.ref 0])) rfl ?_
  refine pgI rfl rfl rfl (hSh.k 0 rfl _) ?_
  show RN xs L al (Ev xs L al d) 144 4 [(0, .ref 0), (1, .int x1), (2, .int x2), (3, .int x3), (4, .int x4), (5, .int x5)] [.int ((mI m 0 1))] (m, S) (some (.int r0)) (mf, S)
  refine rsn 3 (t := (10, [(0, .ref 0), (1, .int x1), (2, .int x2), (3, .int x3), (4, .int x4), (5, .int x5)], [.int 400, .int ((((mI m 0 1)) + 20))])) rfl ?_
  by_cases c1 : ((((mI m 0 1)) + 20)) ≤ 400
  · rw [if_pos c1] at h
    refine rjt (a := (15, [(0, .ref 0), (1, .int x1), (2, .int x2), (3, .int x3), (4, .int x4), (5, .int x5)], [])) (b := (13, [(0, .ref 0), (1, .int x1), (2, .int x2), (3, .int x3), (4, .int x4), (5, .int x5)], [])) rfl rfl c1 ?_
    refine rsn 2 (t := (18, [(6, .int 0), (0, .ref 0), (1, .int x1), (2, .int x2), (3, .int x3), (4, .int x4), (5, .int x5)], [])) rfl ?_
    have ex18 : ∀ (z9_6 : Int32) (m9 : Mm), (some ((mI m9 0 1), m9)) = some (r0, mf) → RN xs L al (Ev xs L al d) 144 112 [(0, .ref 0)] [] (m9, S) (some (.int r0)) (mf, S) := by
      intro z9_6 m9 h
      try dsimp only at h
      refine rsn 1 (t := (113, [(0, .ref 0)], [.ref 0])) rfl ?_
      refine pgI rfl rfl rfl (hSh.k 0 rfl _) ?_
      show RN xs L al (Ev xs L al d) 144 116 [(0, .ref 0)] [.int ((mI m9 0 1))] (m9, S) (some (.int r0)) (mf, S)
      cases h
      exact rret rfl ⟨rfl, rfl, _, _, rfl, rfl, rfl, rfl⟩
    have lp18 : ∀ (n : Nat) (y10_6 : Int32) (m10 : Mm), (f_Mo_feed_L18 N x1 x2 x3 x4 x5 (fun (z9_6 : Int32) (m9 : Mm) => some ((mI m9 0 1), m9)) n y10_6 m10) = some (r0, mf) → RN xs L al (Ev xs L al d) 144 18 [(0, .ref 0), (1, .int x1), (2, .int x2), (3, .int x3), (4, .int x4), (5, .int x5), (6, .int y10_6)] [] (m10, S) (some (.int r0)) (mf, S) := by
      intro n
      induction n with
      | zero => intro y10_6 m10 h; exact absurd h (by simp [f_Mo_feed_L18])
      | succ n18 ih18 =>
        intro y10_6 m10 h
        try dsimp only at h
        rw [f_Mo_feed_L18] at h
        try dsimp only at h
        refine rsn 2 (t := (22, [(0, .ref 0), (1, .int x1), (2, .int x2), (3, .int x3), (4, .int x4), (5, .int x5), (6, .int y10_6)], [.int 20, .int y10_6])) rfl ?_
        by_cases c11 : 20 ≤ y10_6
        · rw [if_pos c11] at h
          refine rjt (a := (112, [(0, .ref 0), (1, .int x1), (2, .int x2), (3, .int x3), (4, .int x4), (5, .int x5), (6, .int y10_6)], [])) (b := (25, [(0, .ref 0), (1, .int x1), (2, .int x2), (3, .int x3), (4, .int x4), (5, .int x5), (6, .int y10_6)], [])) rfl rfl c11 ?_
          exact rsub [(0, .ref 0)] ⟨rfl, trivial⟩ ⟨rfl, trivial⟩ (ex18 y10_6 m10 h)
        · rw [if_neg c11] at h
          refine rjf (a := (112, [(0, .ref 0), (1, .int x1), (2, .int x2), (3, .int x3), (4, .int x4), (5, .int x5), (6, .int y10_6)], [])) (b := (25, [(0, .ref 0), (1, .int x1), (2, .int x2), (3, .int x3), (4, .int x4), (5, .int x5), (6, .int y10_6)], [])) rfl rfl c11 ?_
          refine rsn 2 (t := (28, [(0, .ref 0), (1, .int x1), (2, .int x2), (3, .int x3), (4, .int x4), (5, .int x5), (6, .int y10_6)], [.int 4, .int y10_6])) rfl ?_
          have jp71 : ∀ (s12 : Int32), (ck (ix ((mI m10 0 1)) 400) (f_Mo_feed_L18 N x1 x2 x3 x4 x5 (fun (z9_6 : Int32) (m9 : Mm) => some ((mI m9 0 1), m9)) n18 ((y10_6 + 1)) ((vI (vX m10 1 (((mI m10 0 1)).toNatClampNeg) ((((isr s12 ((24 - ((8 * ((irm y10_6 4)))))))).toInt8.toInt32).toInt8.toInt32)) 0 1 ((((mI m10 0 1)) + 1)))))) = some (r0, mf) → RN xs L al (Ev xs L al d) 144 71 [(0, .ref 0), (1, .int x1), (2, .int x2), (3, .int x3), (4, .int x4), (5, .int x5), (6, .int y10_6)] [.int s12] (m10, S) (some (.int r0)) (mf, S) := by
            intro s12 h
            try dsimp only at h
            refine rsn 2 (t := (74, [(7, .int s12), (0, .ref 0), (1, .int x1), (2, .int x2), (3, .int x3), (4, .int x4), (5, .int x5), (6, .int y10_6)], [.ref 0])) rfl ?_
            refine rgR rfl rfl rfl (hSh.k 0 rfl _) (hSh.r 0 rfl _) ?_
            refine rsn 1 (t := (78, [(7, .int s12), (0, .ref 0), (1, .int x1), (2, .int x2), (3, .int x3), (4, .int x4), (5, .int x5), (6, .int y10_6)], [.ref 0, .ref 1])) rfl ?_
            refine pgI rfl rfl rfl (hSh.k 0 rfl _) ?_
            show RN xs L al (Ev xs L al d) 144 81 [(7, .int s12), (0, .ref 0), (1, .int x1), (2, .int x2), (3, .int x3), (4, .int x4), (5, .int x5), (6, .int y10_6)] [.int ((mI m10 0 1)), .ref 1] (m10, S) (some (.int r0)) (mf, S)
            refine rsn 5 (t := (90, [(7, .int s12), (0, .ref 0), (1, .int x1), (2, .int x2), (3, .int x3), (4, .int x4), (5, .int x5), (6, .int y10_6)], [.int 4, .int y10_6, .int 8, .int 24, .int s12, .int ((mI m10 0 1)), .ref 1])) rfl ?_
            refine rsn 1 (t := (91, [(7, .int s12), (0, .ref 0), (1, .int x1), (2, .int x2), (3, .int x3), (4, .int x4), (5, .int x5), (6, .int y10_6)], [.int ((irm y10_6 4)), .int 8, .int 24, .int s12, .int ((mI m10 0 1)), .ref 1])) rfl ?_
            refine rsn 4 (t := (95, [(7, .int s12), (0, .ref 0), (1, .int x1), (2, .int x2), (3, .int x3), (4, .int x4), (5, .int x5), (6, .int y10_6)], [.int (((isr s12 ((24 - ((8 * ((irm y10_6 4)))))))).toInt8.toInt32), .int ((mI m10 0 1)), .ref 1])) rfl ?_
            obtain ⟨c13, h⟩ := ck_some h
            refine psB rfl (hSh.k 1 rfl _) (hSh.l 0 rfl _) c13 ?_
            refine rsn 2 (t := (98, [(7, .int s12), (0, .ref 0), (1, .int x1), (2, .int x2), (3, .int x3), (4, .int x4), (5, .int x5), (6, .int y10_6)], [.ref 0, .ref 0])) rfl ?_
            refine pgI rfl rfl rfl (hSh.k 0 rfl _) ?_
            show RN xs L al (Ev xs L al d) 144 101 [(7, .int s12), (0, .ref 0), (1, .int x1), (2, .int x2), (3, .int x3), (4, .int x4), (5, .int x5), (6, .int y10_6)] [.int ((mI m10 0 1)), .ref 0] ((vX m10 1 (((mI m10 0 1)).toNatClampNeg) ((((isr s12 ((24 - ((8 * ((irm y10_6 4)))))))).toInt8.toInt32).toInt8.toInt32)), S) (some (.int r0)) (mf, S)
            refine rsn 2 (t := (103, [(7, .int s12), (0, .ref 0), (1, .int x1), (2, .int x2), (3, .int x3), (4, .int x4), (5, .int x5), (6, .int y10_6)], [.int ((((mI m10 0 1)) + 1)), .ref 0])) rfl ?_
            refine ppI rfl rfl rfl rfl (hSh.k 0 rfl _) ?_
            refine rsn 2 (t := (18, [(6, .int ((y10_6 + 1))), (7, .int s12), (0, .ref 0), (1, .int x1), (2, .int x2), (3, .int x3), (4, .int x4), (5, .int x5)], [])) rfl ?_
            exact rsub [(0, .ref 0), (1, .int x1), (2, .int x2), (3, .int x3), (4, .int x4), (5, .int x5), (6, .int ((y10_6 + 1)))] ⟨rfl, ⟨rfl, ⟨rfl, ⟨rfl, ⟨rfl, ⟨rfl, ⟨rfl, trivial⟩⟩⟩⟩⟩⟩⟩ ⟨rfl, ⟨rfl, ⟨rfl, ⟨rfl, ⟨rfl, ⟨rfl, ⟨rfl, trivial⟩⟩⟩⟩⟩⟩⟩ (ih18 ((y10_6 + 1)) ((vI (vX m10 1 (((mI m10 0 1)).toNatClampNeg) ((((isr s12 ((24 - ((8 * ((irm y10_6 4)))))))).toInt8.toInt32).toInt8.toInt32)) 0 1 ((((mI m10 0 1)) + 1)))) h)
          rw [jn] at h
          try dsimp only at h
          by_cases c14 : 4 ≤ y10_6
          · rw [if_pos c14] at h
            refine rjt (a := (35, [(0, .ref 0), (1, .int x1), (2, .int x2), (3, .int x3), (4, .int x4), (5, .int x5), (6, .int y10_6)], [])) (b := (31, [(0, .ref 0), (1, .int x1), (2, .int x2), (3, .int x3), (4, .int x4), (5, .int x5), (6, .int y10_6)], [])) rfl rfl c14 ?_
            refine rsn 2 (t := (39, [(0, .ref 0), (1, .int x1), (2, .int x2), (3, .int x3), (4, .int x4), (5, .int x5), (6, .int y10_6)], [.int 8, .int y10_6])) rfl ?_
            by_cases c15 : 8 ≤ y10_6
            · rw [if_pos c15] at h
              refine rjt (a := (46, [(0, .ref 0), (1, .int x1), (2, .int x2), (3, .int x3), (4, .int x4), (5, .int x5), (6, .int y10_6)], [])) (b := (42, [(0, .ref 0), (1, .int x1), (2, .int x2), (3, .int x3), (4, .int x4), (5, .int x5), (6, .int y10_6)], [])) rfl rfl c15 ?_
              refine rsn 2 (t := (50, [(0, .ref 0), (1, .int x1), (2, .int x2), (3, .int x3), (4, .int x4), (5, .int x5), (6, .int y10_6)], [.int 12, .int y10_6])) rfl ?_
              by_cases c16 : 12 ≤ y10_6
              · rw [if_pos c16] at h
                refine rjt (a := (57, [(0, .ref 0), (1, .int x1), (2, .int x2), (3, .int x3), (4, .int x4), (5, .int x5), (6, .int y10_6)], [])) (b := (53, [(0, .ref 0), (1, .int x1), (2, .int x2), (3, .int x3), (4, .int x4), (5, .int x5), (6, .int y10_6)], [])) rfl rfl c16 ?_
                refine rsn 2 (t := (61, [(0, .ref 0), (1, .int x1), (2, .int x2), (3, .int x3), (4, .int x4), (5, .int x5), (6, .int y10_6)], [.int 16, .int y10_6])) rfl ?_
                by_cases c17 : 16 ≤ y10_6
                · rw [if_pos c17] at h
                  refine rjt (a := (69, [(0, .ref 0), (1, .int x1), (2, .int x2), (3, .int x3), (4, .int x4), (5, .int x5), (6, .int y10_6)], [])) (b := (64, [(0, .ref 0), (1, .int x1), (2, .int x2), (3, .int x3), (4, .int x4), (5, .int x5), (6, .int y10_6)], [])) rfl rfl c17 ?_
                  refine rsn 1 (t := (71, [(0, .ref 0), (1, .int x1), (2, .int x2), (3, .int x3), (4, .int x4), (5, .int x5), (6, .int y10_6)], [.int x5])) rfl ?_
                  exact rsub [(0, .ref 0), (1, .int x1), (2, .int x2), (3, .int x3), (4, .int x4), (5, .int x5), (6, .int y10_6)] ⟨rfl, ⟨rfl, ⟨rfl, ⟨rfl, ⟨rfl, ⟨rfl, ⟨rfl, trivial⟩⟩⟩⟩⟩⟩⟩ ⟨rfl, ⟨rfl, ⟨rfl, ⟨rfl, ⟨rfl, ⟨rfl, ⟨rfl, trivial⟩⟩⟩⟩⟩⟩⟩ (jp71 x5 h)
                · rw [if_neg c17] at h
                  refine rjf (a := (69, [(0, .ref 0), (1, .int x1), (2, .int x2), (3, .int x3), (4, .int x4), (5, .int x5), (6, .int y10_6)], [])) (b := (64, [(0, .ref 0), (1, .int x1), (2, .int x2), (3, .int x3), (4, .int x4), (5, .int x5), (6, .int y10_6)], [])) rfl rfl c17 ?_
                  refine rsn 2 (t := (71, [(0, .ref 0), (1, .int x1), (2, .int x2), (3, .int x3), (4, .int x4), (5, .int x5), (6, .int y10_6)], [.int x4])) rfl ?_
                  exact rsub [(0, .ref 0), (1, .int x1), (2, .int x2), (3, .int x3), (4, .int x4), (5, .int x5), (6, .int y10_6)] ⟨rfl, ⟨rfl, ⟨rfl, ⟨rfl, ⟨rfl, ⟨rfl, ⟨rfl, trivial⟩⟩⟩⟩⟩⟩⟩ ⟨rfl, ⟨rfl, ⟨rfl, ⟨rfl, ⟨rfl, ⟨rfl, ⟨rfl, trivial⟩⟩⟩⟩⟩⟩⟩ (jp71 x4 h)
              · rw [if_neg c16] at h
                refine rjf (a := (57, [(0, .ref 0), (1, .int x1), (2, .int x2), (3, .int x3), (4, .int x4), (5, .int x5), (6, .int y10_6)], [])) (b := (53, [(0, .ref 0), (1, .int x1), (2, .int x2), (3, .int x3), (4, .int x4), (5, .int x5), (6, .int y10_6)], [])) rfl rfl c16 ?_
                refine rsn 2 (t := (71, [(0, .ref 0), (1, .int x1), (2, .int x2), (3, .int x3), (4, .int x4), (5, .int x5), (6, .int y10_6)], [.int x3])) rfl ?_
                exact rsub [(0, .ref 0), (1, .int x1), (2, .int x2), (3, .int x3), (4, .int x4), (5, .int x5), (6, .int y10_6)] ⟨rfl, ⟨rfl, ⟨rfl, ⟨rfl, ⟨rfl, ⟨rfl, ⟨rfl, trivial⟩⟩⟩⟩⟩⟩⟩ ⟨rfl, ⟨rfl, ⟨rfl, ⟨rfl, ⟨rfl, ⟨rfl, ⟨rfl, trivial⟩⟩⟩⟩⟩⟩⟩ (jp71 x3 h)
            · rw [if_neg c15] at h
              refine rjf (a := (46, [(0, .ref 0), (1, .int x1), (2, .int x2), (3, .int x3), (4, .int x4), (5, .int x5), (6, .int y10_6)], [])) (b := (42, [(0, .ref 0), (1, .int x1), (2, .int x2), (3, .int x3), (4, .int x4), (5, .int x5), (6, .int y10_6)], [])) rfl rfl c15 ?_
              refine rsn 2 (t := (71, [(0, .ref 0), (1, .int x1), (2, .int x2), (3, .int x3), (4, .int x4), (5, .int x5), (6, .int y10_6)], [.int x2])) rfl ?_
              exact rsub [(0, .ref 0), (1, .int x1), (2, .int x2), (3, .int x3), (4, .int x4), (5, .int x5), (6, .int y10_6)] ⟨rfl, ⟨rfl, ⟨rfl, ⟨rfl, ⟨rfl, ⟨rfl, ⟨rfl, trivial⟩⟩⟩⟩⟩⟩⟩ ⟨rfl, ⟨rfl, ⟨rfl, ⟨rfl, ⟨rfl, ⟨rfl, ⟨rfl, trivial⟩⟩⟩⟩⟩⟩⟩ (jp71 x2 h)
          · rw [if_neg c14] at h
            refine rjf (a := (35, [(0, .ref 0), (1, .int x1), (2, .int x2), (3, .int x3), (4, .int x4), (5, .int x5), (6, .int y10_6)], [])) (b := (31, [(0, .ref 0), (1, .int x1), (2, .int x2), (3, .int x3), (4, .int x4), (5, .int x5), (6, .int y10_6)], [])) rfl rfl c14 ?_
            refine rsn 2 (t := (71, [(0, .ref 0), (1, .int x1), (2, .int x2), (3, .int x3), (4, .int x4), (5, .int x5), (6, .int y10_6)], [.int x1])) rfl ?_
            exact rsub [(0, .ref 0), (1, .int x1), (2, .int x2), (3, .int x3), (4, .int x4), (5, .int x5), (6, .int y10_6)] ⟨rfl, ⟨rfl, ⟨rfl, ⟨rfl, ⟨rfl, ⟨rfl, ⟨rfl, trivial⟩⟩⟩⟩⟩⟩⟩ ⟨rfl, ⟨rfl, ⟨rfl, ⟨rfl, ⟨rfl, ⟨rfl, ⟨rfl, trivial⟩⟩⟩⟩⟩⟩⟩ (jp71 x1 h)
    exact rsub [(0, .ref 0), (1, .int x1), (2, .int x2), (3, .int x3), (4, .int x4), (5, .int x5), (6, .int 0)] ⟨rfl, ⟨rfl, ⟨rfl, ⟨rfl, ⟨rfl, ⟨rfl, ⟨rfl, trivial⟩⟩⟩⟩⟩⟩⟩ ⟨rfl, ⟨rfl, ⟨rfl, ⟨rfl, ⟨rfl, ⟨rfl, ⟨rfl, trivial⟩⟩⟩⟩⟩⟩⟩ (lp18 N 0 m h)
  · rw [if_neg c1] at h
    refine rjf (a := (15, [(0, .ref 0), (1, .int x1), (2, .int x2), (3, .int x3), (4, .int x4), (5, .int x5)], [])) (b := (13, [(0, .ref 0), (1, .int x1), (2, .int x2), (3, .int x3), (4, .int x4), (5, .int x5)], [])) rfl rfl c1 ?_
    refine rsn 1 (t := (14, [(0, .ref 0), (1, .int x1), (2, .int x2), (3, .int x3), (4, .int x4), (5, .int x5)], [.int ((-1))])) rfl ?_
    cases h
    exact rret rfl ⟨rfl, rfl, _, _, rfl, rfl, rfl, rfl⟩
def f_Mo_end (N : Nat) (x1 : Int32) (m : Mm) : Option (Int32 × Mm) := b1 (f_Mo_in N x1 0 ((mI m 0 1))) fun r1 => (if r1 = 0 then some (0, m) else some (1, (vI m 0 1 x1)))
set_option maxRecDepth 20000 in
set_option maxHeartbeats 4000000 in
theorem e_Mo_end {xs : Nat → Int32} {L : Nat} {al : Bool} (N : Nat) {d : Nat} (hd : 2 ≤ d) {S : St} (hSh : ShR S) {x1 : Int32} {m : Mm} {r0 : Int32} {mf : Mm} (h : f_Mo_end N x1 m = some (r0, mf)) : Ev xs L al d 145 [.ref 0, .int x1] (m, S) (some (.int r0)) (mf, S) := by
  obtain ⟨d, rfl⟩ : ∃ e, d = e + 1 := ⟨d - 1, by omega⟩
  refine ev_of (by decide) (Nat.le_of_ble_eq_true rfl) ?_
  rw [f_Mo_end] at h
  show RN xs L al (Ev xs L al d) 145 0 [(0, .ref 0), (1, .int x1)] [] (m, S) (some (.int r0)) (mf, S)
  refine rsn 3 (t := (3, [(0, .ref 0), (1, .int x1)], [.ref 0, .int 0, .int x1])) rfl ?_
  refine pgI rfl rfl rfl (hSh.k 0 rfl _) ?_
  show RN xs L al (Ev xs L al d) 145 6 [(0, .ref 0), (1, .int x1)] [.int ((mI m 0 1)), .int 0, .int x1] (m, S) (some (.int r0)) (mf, S)
  obtain ⟨r1, g1, h⟩ := b1_some h
  refine rcS 146 [.int x1, .int 0, .int ((mI m 0 1))] rfl rfl rfl (Nat.le_of_ble_eq_true rfl) rfl (e_Mo_in N (by omega) g1) ?_
  show RN xs L al (Ev xs L al d) 145 9 [(0, .ref 0), (1, .int x1)] [.int r1] (m, S) (some (.int r0)) (mf, S)
  by_cases c2 : r1 = 0
  · rw [if_pos c2] at h
    refine rjf (a := (14, [(0, .ref 0), (1, .int x1)], [])) (b := (12, [(0, .ref 0), (1, .int x1)], [])) rfl rfl (fun q => q c2) ?_
    refine rsn 1 (t := (13, [(0, .ref 0), (1, .int x1)], [.int 0])) rfl ?_
    cases h
    exact rret rfl ⟨rfl, rfl, _, _, rfl, rfl, rfl, rfl⟩
  · rw [if_neg c2] at h
    refine rjt (a := (14, [(0, .ref 0), (1, .int x1)], [])) (b := (12, [(0, .ref 0), (1, .int x1)], [])) rfl rfl c2 ?_
    refine rsn 2 (t := (16, [(0, .ref 0), (1, .int x1)], [.int x1, .ref 0])) rfl ?_
    refine ppI rfl rfl rfl rfl (hSh.k 0 rfl _) ?_
    refine rsn 1 (t := (20, [(0, .ref 0), (1, .int x1)], [.int 1])) rfl ?_
    cases h
    exact rret rfl ⟨rfl, rfl, _, _, rfl, rfl, rfl, rfl⟩
def f_Mo_next_L0 (N : Nat) (k0 : Mm → Option (Mm)) : Nat → Mm → Option (Mm)
  | 0, _ => none
  | n0 + 1, m => (if ((mI m 0 1)) ≤ ((mI m 0 2)) then k0 m else ck (ix ((mI m 0 2)) 400) ((if ((mX m 1 (((mI m 0 2)).toNatClampNeg))) = 32 then f_Mo_next_L0 N k0 n0 ((vI m 0 2 ((((mI m 0 2)) + 1)))) else ck (ix ((mI m 0 2)) 400) ((if ((mX m 1 (((mI m 0 2)).toNatClampNeg))) = 10 then f_Mo_next_L0 N k0 n0 ((vI m 0 2 ((((mI m 0 2)) + 1)))) else k0 m)))))
def f_Mo_next_L208 (N : Nat) (k208 : Mm → Option (Mm)) : Nat → Mm → Option (Mm)
  | 0, _ => none
  | n208 + 1, m => (if ((mI m 0 1)) ≤ ((mI m 0 2)) then k208 m else ck (ix ((mI m 0 2)) 400) (b1 (f_Mo_isDigit N ((mX m 1 (((mI m 0 2)).toNatClampNeg)))) fun r18 => (if r18 = 0 then k208 m else (jn (fun (s20 : Int64) => f_Mo_next_L208 N k208 n208 ((vI (vJ m 0 5 s20) 0 2 ((((mI m 0 2)) + 1))))) (fun j276 => if ((mJ m 0 5)) ≤ 999 then ck (ix ((mI m 0 2)) 400) (j276 ((((((10 * ((mJ m 0 5)))) + (((mX m 1 (((mI m 0 2)).toNatClampNeg))).toInt64))) - 48))) else j276 ((mJ m 0 5)))))))
def f_Mo_next_L99 (N : Nat) (k99 : Mm → Option (Mm)) : Nat → Mm → Option (Mm)
  | 0, _ => none
  | n99 + 1, m => (if ((mI m 0 1)) ≤ ((mI m 0 2)) then k99 m else ck (ix ((mI m 0 2)) 400) (b1 (f_Mo_isLetter N ((mX m 1 (((mI m 0 2)).toNatClampNeg)))) fun r34 => (if r34 = 0 then k99 m else (if 8 ≤ ((((mI m 0 2)) - ((mI m 0 4)))) then f_Mo_next_L99 N k99 n99 ((vI m 0 2 ((((mI m 0 2)) + 1)))) else ck (ix ((mI m 0 2)) 400) (f_Mo_next_L99 N k99 n99 ((vI (vJ m 0 5 ((((lsl ((mJ m 0 5)) 8)) ||| (((mX m 1 (((mI m 0 2)).toNatClampNeg))).toInt64)))) 0 2 ((((mI m 0 2)) + 1)))))))))
def f_Mo_next (N : Nat) (m : Mm) : Option (Mm) := f_Mo_next_L0 N (fun (m6 : Mm) => (if ((mI m6 0 2)) = ((mI m6 0 1)) then some (vI (vJ (vI m6 0 4 ((mI m6 0 2))) 0 5 0) 0 3 0) else ck (ix ((mI m6 0 2)) 400) (b1 (f_Mo_isLetter N ((mX m6 1 (((mI m6 0 2)).toNatClampNeg)))) fun r9 => (if r9 = 0 then b1 (f_Mo_isDigit N ((mX m6 1 (((mI m6 0 2)).toNatClampNeg)))) fun r11 => (if r11 = 0 then (jn (fun (s13 : Int32) => some (vI (vJ (vI (vI (vJ (vI m6 0 4 ((mI m6 0 2))) 0 5 0) 0 3 0) 0 3 s13) 0 5 (((mX m6 1 (((mI m6 0 2)).toNatClampNeg))).toInt64)) 0 2 ((((mI m6 0 2)) + 1)))) (fun j318 => jn (fun (_ : Unit) => j318 3) (fun j313 => if ((mX m6 1 (((mI m6 0 2)).toNatClampNeg))) = 44 then j313 () else (if ((mX m6 1 (((mI m6 0 2)).toNatClampNeg))) = 59 then j313 () else j318 4)))) else f_Mo_next_L208 N (fun (m23 : Mm) => some (vI m23 0 3 2)) N (vI (vJ (vI m6 0 4 ((mI m6 0 2))) 0 5 0) 0 3 0)) else f_Mo_next_L99 N (fun (m38 : Mm) => (if ((((mI m38 0 2)) - ((mI m38 0 4)))) ≤ 8 then some (vI m38 0 3 1) else some (vI (vJ m38 0 5 0) 0 3 1))) N (vI (vJ (vI m6 0 4 ((mI m6 0 2))) 0 5 0) 0 3 0))))) N m
set_option maxRecDepth 20000 in
set_option maxHeartbeats 4000000 in
theorem e_Mo_next {xs : Nat → Int32} {L : Nat} {al : Bool} (N : Nat) {d : Nat} (hd : 2 ≤ d) {S : St} (hSh : ShR S) {m : Mm} {mf : Mm} (h : f_Mo_next N m = some mf) : Ev xs L al d 148 [.ref 0] (m, S) none (mf, S) := by
  obtain ⟨d, rfl⟩ : ∃ e, d = e + 1 := ⟨d - 1, by omega⟩
  refine ev_of (by decide) (Nat.le_of_ble_eq_true rfl) ?_
  rw [f_Mo_next] at h
  show RN xs L al (Ev xs L al d) 148 0 [(0, .ref 0)] [] (m, S) none (mf, S)
  have ex0 : ∀ (m6 : Mm), ((if ((mI m6 0 2)) = ((mI m6 0 1)) then some (vI (vJ (vI m6 0 4 ((mI m6 0 2))) 0 5 0) 0 3 0) else ck (ix ((mI m6 0 2)) 400) (b1 (f_Mo_isLetter N ((mX m6 1 (((mI m6 0 2)).toNatClampNeg)))) fun r9 => (if r9 = 0 then b1 (f_Mo_isDigit N ((mX m6 1 (((mI m6 0 2)).toNatClampNeg)))) fun r11 => (if r11 = 0 then (jn (fun (s13 : Int32) => some (vI (vJ (vI (vI (vJ (vI m6 0 4 ((mI m6 0 2))) 0 5 0) 0 3 0) 0 3 s13) 0 5 (((mX m6 1 (((mI m6 0 2)).toNatClampNeg))).toInt64)) 0 2 ((((mI m6 0 2)) + 1)))) (fun j318 => jn (fun (_ : Unit) => j318 3) (fun j313 => if ((mX m6 1 (((mI m6 0 2)).toNatClampNeg))) = 44 then j313 () else (if ((mX m6 1 (((mI m6 0 2)).toNatClampNeg))) = 59 then j313 () else j318 4)))) else f_Mo_next_L208 N (fun (m23 : Mm) => some (vI m23 0 3 2)) N (vI (vJ (vI m6 0 4 ((mI m6 0 2))) 0 5 0) 0 3 0)) else f_Mo_next_L99 N (fun (m38 : Mm) => (if ((((mI m38 0 2)) - ((mI m38 0 4)))) ≤ 8 then some (vI m38 0 3 1) else some (vI (vJ m38 0 5 0) 0 3 1))) N (vI (vJ (vI m6 0 4 ((mI m6 0 2))) 0 5 0) 0 3 0))))) = some mf → RN xs L al (Ev xs L al d) 148 52 [(0, .ref 0)] [] (m6, S) none (mf, S) := by
    intro m6 h
    try dsimp only at h
    refine rsn 2 (t := (54, [(0, .ref 0)], [.ref 0, .ref 0])) rfl ?_
    refine pgI rfl rfl rfl (hSh.k 0 rfl _) ?_
    show RN xs L al (Ev xs L al d) 148 57 [(0, .ref 0)] [.int ((mI m6 0 2)), .ref 0] (m6, S) none (mf, S)
    refine ppI rfl rfl rfl rfl (hSh.k 0 rfl _) ?_
    refine rsn 2 (t := (62, [(0, .ref 0)], [.long 0, .ref 0])) rfl ?_
    refine ppJ rfl rfl rfl rfl (hSh.k 0 rfl _) ?_
    refine rsn 2 (t := (67, [(0, .ref 0)], [.int 0, .ref 0])) rfl ?_
    refine ppI rfl rfl rfl rfl (hSh.k 0 rfl _) ?_
    refine rsn 1 (t := (71, [(0, .ref 0)], [.ref 0])) rfl ?_
    refine pgI rfl rfl rfl (hSh.k 0 rfl _) ?_
    show RN xs L al (Ev xs L al d) 148 74 [(0, .ref 0)] [.int ((mI m6 0 2))] ((vI (vJ (vI m6 0 4 ((mI m6 0 2))) 0 5 0) 0 3 0), S) none (mf, S)
    refine rsn 1 (t := (75, [(0, .ref 0)], [.ref 0, .int ((mI m6 0 2))])) rfl ?_
    refine pgI rfl rfl rfl (hSh.k 0 rfl _) ?_
    show RN xs L al (Ev xs L al d) 148 78 [(0, .ref 0)] [.int ((mI m6 0 1)), .int ((mI m6 0 2))] ((vI (vJ (vI m6 0 4 ((mI m6 0 2))) 0 5 0) 0 3 0), S) none (mf, S)
    by_cases c7 : ((mI m6 0 2)) = ((mI m6 0 1))
    · rw [if_pos c7] at h
      refine rjf (a := (82, [(0, .ref 0)], [])) (b := (81, [(0, .ref 0)], [])) rfl rfl (fun q => q c7) ?_
      cases h
      exact rret rfl ⟨rfl, rfl, rfl, rfl, rfl⟩
    · rw [if_neg c7] at h
      refine rjt (a := (82, [(0, .ref 0)], [])) (b := (81, [(0, .ref 0)], [])) rfl rfl c7 ?_
      refine rsn 1 (t := (83, [(0, .ref 0)], [.ref 0])) rfl ?_
      refine rgR rfl rfl rfl (hSh.k 0 rfl _) (hSh.r 0 rfl _) ?_
      refine rsn 1 (t := (87, [(0, .ref 0)], [.ref 0, .ref 1])) rfl ?_
      refine pgI rfl rfl rfl (hSh.k 0 rfl _) ?_
      show RN xs L al (Ev xs L al d) 148 90 [(0, .ref 0)] [.int ((mI m6 0 2)), .ref 1] ((vI (vJ (vI m6 0 4 ((mI m6 0 2))) 0 5 0) 0 3 0), S) none (mf, S)
      obtain ⟨c8, h⟩ := ck_some h
      refine pxB rfl (Or.inl (hSh.k 1 rfl _)) (hSh.l 0 rfl _) c8 ?_
      show RN xs L al (Ev xs L al d) 148 91 [(0, .ref 0)] [.int ((mX m6 1 (((mI m6 0 2)).toNatClampNeg)))] ((vI (vJ (vI m6 0 4 ((mI m6 0 2))) 0 5 0) 0 3 0), S) none (mf, S)
      refine rsn 2 (t := (93, [(1, .int ((mX m6 1 (((mI m6 0 2)).toNatClampNeg)))), (0, .ref 0)], [.int ((mX m6 1 (((mI m6 0 2)).toNatClampNeg)))])) rfl ?_
      obtain ⟨r9, g9, h⟩ := b1_some h
      refine rcS 149 [.int ((mX m6 1 (((mI m6 0 2)).toNatClampNeg)))] rfl rfl rfl (Nat.le_of_ble_eq_true rfl) rfl (e_Mo_isLetter N (by omega) g9) ?_
      show RN xs L al (Ev xs L al d) 148 96 [(1, .int ((mX m6 1 (((mI m6 0 2)).toNatClampNeg)))), (0, .ref 0)] [.int r9] ((vI (vJ (vI m6 0 4 ((mI m6 0 2))) 0 5 0) 0 3 0), S) none (mf, S)
      by_cases c10 : r9 = 0
      · rw [if_pos c10] at h
        refine rjt (a := (201, [(1, .int ((mX m6 1 (((mI m6 0 2)).toNatClampNeg)))), (0, .ref 0)], [])) (b := (99, [(1, .int ((mX m6 1 (((mI m6 0 2)).toNatClampNeg)))), (0, .ref 0)], [])) rfl rfl c10 ?_
        refine rsn 1 (t := (202, [(1, .int ((mX m6 1 (((mI m6 0 2)).toNatClampNeg)))), (0, .ref 0)], [.int ((mX m6 1 (((mI m6 0 2)).toNatClampNeg)))])) rfl ?_
        obtain ⟨r11, g11, h⟩ := b1_some h
        refine rcS 150 [.int ((mX m6 1 (((mI m6 0 2)).toNatClampNeg)))] rfl rfl rfl (Nat.le_of_ble_eq_true rfl) rfl (e_Mo_isDigit N (by omega) g11) ?_
        show RN xs L al (Ev xs L al d) 148 205 [(1, .int ((mX m6 1 (((mI m6 0 2)).toNatClampNeg)))), (0, .ref 0)] [.int r11] ((vI (vJ (vI m6 0 4 ((mI m6 0 2))) 0 5 0) 0 3 0), S) none (mf, S)
        by_cases c12 : r11 = 0
        · rw [if_pos c12] at h
          refine rjt (a := (300, [(1, .int ((mX m6 1 (((mI m6 0 2)).toNatClampNeg)))), (0, .ref 0)], [])) (b := (208, [(1, .int ((mX m6 1 (((mI m6 0 2)).toNatClampNeg)))), (0, .ref 0)], [])) rfl rfl c12 ?_
          refine rsn 3 (t := (304, [(1, .int ((mX m6 1 (((mI m6 0 2)).toNatClampNeg)))), (0, .ref 0)], [.int 44, .int ((mX m6 1 (((mI m6 0 2)).toNatClampNeg))), .ref 0])) rfl ?_
          have jp318 : ∀ (s13 : Int32), (some (vI (vJ (vI (vI (vJ (vI m6 0 4 ((mI m6 0 2))) 0 5 0) 0 3 0) 0 3 s13) 0 5 (((mX m6 1 (((mI m6 0 2)).toNatClampNeg))).toInt64)) 0 2 ((((mI m6 0 2)) + 1)))) = some mf → RN xs L al (Ev xs L al d) 148 318 [(0, .ref 0), (1, .int ((mX m6 1 (((mI m6 0 2)).toNatClampNeg))))] [.int s13, .ref 0] ((vI (vJ (vI m6 0 4 ((mI m6 0 2))) 0 5 0) 0 3 0), S) none (mf, S) := by
            intro s13 h
            try dsimp only at h
            refine ppI rfl rfl rfl rfl (hSh.k 0 rfl _) ?_
            refine rsn 3 (t := (324, [(0, .ref 0), (1, .int ((mX m6 1 (((mI m6 0 2)).toNatClampNeg))))], [.long (((mX m6 1 (((mI m6 0 2)).toNatClampNeg))).toInt64), .ref 0])) rfl ?_
            refine ppJ rfl rfl rfl rfl (hSh.k 0 rfl _) ?_
            refine rsn 2 (t := (329, [(0, .ref 0), (1, .int ((mX m6 1 (((mI m6 0 2)).toNatClampNeg))))], [.ref 0, .ref 0])) rfl ?_
            refine pgI rfl rfl rfl (hSh.k 0 rfl _) ?_
            show RN xs L al (Ev xs L al d) 148 332 [(0, .ref 0), (1, .int ((mX m6 1 (((mI m6 0 2)).toNatClampNeg))))] [.int ((mI m6 0 2)), .ref 0] ((vJ (vI (vI (vJ (vI m6 0 4 ((mI m6 0 2))) 0 5 0) 0 3 0) 0 3 s13) 0 5 (((mX m6 1 (((mI m6 0 2)).toNatClampNeg))).toInt64)), S) none (mf, S)
            refine rsn 2 (t := (334, [(0, .ref 0), (1, .int ((mX m6 1 (((mI m6 0 2)).toNatClampNeg))))], [.int ((((mI m6 0 2)) + 1)), .ref 0])) rfl ?_
            refine ppI rfl rfl rfl rfl (hSh.k 0 rfl _) ?_
            cases h
            exact rret rfl ⟨rfl, rfl, rfl, rfl, rfl⟩
          rw [jn] at h
          try dsimp only at h
          have jp313 : ∀ (_ : Unit), (((fun j318 => j318 3) (fun (s13 : Int32) => some (vI (vJ (vI (vI (vJ (vI m6 0 4 ((mI m6 0 2))) 0 5 0) 0 3 0) 0 3 s13) 0 5 (((mX m6 1 (((mI m6 0 2)).toNatClampNeg))).toInt64)) 0 2 ((((mI m6 0 2)) + 1)))))) = some mf → RN xs L al (Ev xs L al d) 148 313 [(0, .ref 0), (1, .int ((mX m6 1 (((mI m6 0 2)).toNatClampNeg))))] [.ref 0] ((vI (vJ (vI m6 0 4 ((mI m6 0 2))) 0 5 0) 0 3 0), S) none (mf, S) := by
            intro _ h
            try dsimp only at h
            refine rsn 2 (t := (318, [(0, .ref 0), (1, .int ((mX m6 1 (((mI m6 0 2)).toNatClampNeg))))], [.int 3, .ref 0])) rfl ?_
            exact rsub [(0, .ref 0), (1, .int ((mX m6 1 (((mI m6 0 2)).toNatClampNeg))))] ⟨rfl, ⟨rfl, trivial⟩⟩ ⟨rfl, ⟨rfl, trivial⟩⟩ (jp318 3 h)
          rw [jn] at h
          try dsimp only at h
          by_cases c14 : ((mX m6 1 (((mI m6 0 2)).toNatClampNeg))) = 44
          · rw [if_pos c14] at h
            refine rjt (a := (313, [(1, .int ((mX m6 1 (((mI m6 0 2)).toNatClampNeg)))), (0, .ref 0)], [.ref 0])) (b := (307, [(1, .int ((mX m6 1 (((mI m6 0 2)).toNatClampNeg)))), (0, .ref 0)], [.ref 0])) rfl rfl c14 ?_
            exact rsub [(0, .ref 0), (1, .int ((mX m6 1 (((mI m6 0 2)).toNatClampNeg))))] ⟨rfl, ⟨rfl, trivial⟩⟩ ⟨rfl, ⟨rfl, trivial⟩⟩ (jp313 () h)
          · rw [if_neg c14] at h
            refine rjf (a := (313, [(1, .int ((mX m6 1 (((mI m6 0 2)).toNatClampNeg)))), (0, .ref 0)], [.ref 0])) (b := (307, [(1, .int ((mX m6 1 (((mI m6 0 2)).toNatClampNeg)))), (0, .ref 0)], [.ref 0])) rfl rfl c14 ?_
            refine rsn 2 (t := (310, [(1, .int ((mX m6 1 (((mI m6 0 2)).toNatClampNeg)))), (0, .ref 0)], [.int 59, .int ((mX m6 1 (((mI m6 0 2)).toNatClampNeg))), .ref 0])) rfl ?_
            by_cases c15 : ((mX m6 1 (((mI m6 0 2)).toNatClampNeg))) = 59
            · rw [if_pos c15] at h
              refine rjf (a := (317, [(1, .int ((mX m6 1 (((mI m6 0 2)).toNatClampNeg)))), (0, .ref 0)], [.ref 0])) (b := (313, [(1, .int ((mX m6 1 (((mI m6 0 2)).toNatClampNeg)))), (0, .ref 0)], [.ref 0])) rfl rfl (fun q => q c15) ?_
              exact rsub [(0, .ref 0), (1, .int ((mX m6 1 (((mI m6 0 2)).toNatClampNeg))))] ⟨rfl, ⟨rfl, trivial⟩⟩ ⟨rfl, ⟨rfl, trivial⟩⟩ (jp313 () h)
            · rw [if_neg c15] at h
              refine rjt (a := (317, [(1, .int ((mX m6 1 (((mI m6 0 2)).toNatClampNeg)))), (0, .ref 0)], [.ref 0])) (b := (313, [(1, .int ((mX m6 1 (((mI m6 0 2)).toNatClampNeg)))), (0, .ref 0)], [.ref 0])) rfl rfl c15 ?_
              refine rsn 1 (t := (318, [(1, .int ((mX m6 1 (((mI m6 0 2)).toNatClampNeg)))), (0, .ref 0)], [.int 4, .ref 0])) rfl ?_
              exact rsub [(0, .ref 0), (1, .int ((mX m6 1 (((mI m6 0 2)).toNatClampNeg))))] ⟨rfl, ⟨rfl, trivial⟩⟩ ⟨rfl, ⟨rfl, trivial⟩⟩ (jp318 4 h)
        · rw [if_neg c12] at h
          refine rjf (a := (300, [(1, .int ((mX m6 1 (((mI m6 0 2)).toNatClampNeg)))), (0, .ref 0)], [])) (b := (208, [(1, .int ((mX m6 1 (((mI m6 0 2)).toNatClampNeg)))), (0, .ref 0)], [])) rfl rfl c12 ?_
          have ex208 : ∀ (m23 : Mm), (some (vI m23 0 3 2)) = some mf → RN xs L al (Ev xs L al d) 148 292 [(0, .ref 0)] [] (m23, S) none (mf, S) := by
            intro m23 h
            try dsimp only at h
            refine rsn 2 (t := (294, [(0, .ref 0)], [.int 2, .ref 0])) rfl ?_
            refine ppI rfl rfl rfl rfl (hSh.k 0 rfl _) ?_
            refine rsn 1 (t := (337, [(0, .ref 0)], [])) rfl ?_
            cases h
            exact rret rfl ⟨rfl, rfl, rfl, rfl, rfl⟩
          have lp208 : ∀ (n : Nat) (m24 : Mm), (f_Mo_next_L208 N (fun (m23 : Mm) => some (vI m23 0 3 2)) n m24) = some mf → RN xs L al (Ev xs L al d) 148 208 [(0, .ref 0)] [] (m24, S) none (mf, S) := by
            intro n
            induction n with
            | zero => intro m24 h; exact absurd h (by simp [f_Mo_next_L208])
            | succ n208 ih208 =>
              intro m24 h
              try dsimp only at h
              rw [f_Mo_next_L208] at h
              try dsimp only at h
              refine rsn 1 (t := (209, [(0, .ref 0)], [.ref 0])) rfl ?_
              refine pgI rfl rfl rfl (hSh.k 0 rfl _) ?_
              show RN xs L al (Ev xs L al d) 148 212 [(0, .ref 0)] [.int ((mI m24 0 2))] (m24, S) none (mf, S)
              refine rsn 1 (t := (213, [(0, .ref 0)], [.ref 0, .int ((mI m24 0 2))])) rfl ?_
              refine pgI rfl rfl rfl (hSh.k 0 rfl _) ?_
              show RN xs L al (Ev xs L al d) 148 216 [(0, .ref 0)] [.int ((mI m24 0 1)), .int ((mI m24 0 2))] (m24, S) none (mf, S)
              by_cases c25 : ((mI m24 0 1)) ≤ ((mI m24 0 2))
              · rw [if_pos c25] at h
                refine rjt (a := (292, [(0, .ref 0)], [])) (b := (219, [(0, .ref 0)], [])) rfl rfl c25 ?_
                exact rsub [(0, .ref 0)] ⟨rfl, trivial⟩ ⟨rfl, trivial⟩ (ex208 m24 h)
              · rw [if_neg c25] at h
                refine rjf (a := (292, [(0, .ref 0)], [])) (b := (219, [(0, .ref 0)], [])) rfl rfl c25 ?_
                refine rsn 1 (t := (220, [(0, .ref 0)], [.ref 0])) rfl ?_
                refine rgR rfl rfl rfl (hSh.k 0 rfl _) (hSh.r 0 rfl _) ?_
                refine rsn 1 (t := (224, [(0, .ref 0)], [.ref 0, .ref 1])) rfl ?_
                refine pgI rfl rfl rfl (hSh.k 0 rfl _) ?_
                show RN xs L al (Ev xs L al d) 148 227 [(0, .ref 0)] [.int ((mI m24 0 2)), .ref 1] (m24, S) none (mf, S)
                obtain ⟨c26, h⟩ := ck_some h
                refine pxB rfl (Or.inl (hSh.k 1 rfl _)) (hSh.l 0 rfl _) c26 ?_
                show RN xs L al (Ev xs L al d) 148 228 [(0, .ref 0)] [.int ((mX m24 1 (((mI m24 0 2)).toNatClampNeg)))] (m24, S) none (mf, S)
                obtain ⟨r27, g27, h⟩ := b1_some h
                refine rcS 150 [.int ((mX m24 1 (((mI m24 0 2)).toNatClampNeg)))] rfl rfl rfl (Nat.le_of_ble_eq_true rfl) rfl (e_Mo_isDigit N (by omega) g27) ?_
                show RN xs L al (Ev xs L al d) 148 231 [(0, .ref 0)] [.int r27] (m24, S) none (mf, S)
                by_cases c28 : r27 = 0
                · rw [if_pos c28] at h
                  refine rjt (a := (292, [(0, .ref 0)], [])) (b := (234, [(0, .ref 0)], [])) rfl rfl c28 ?_
                  exact rsub [(0, .ref 0)] ⟨rfl, trivial⟩ ⟨rfl, trivial⟩ (ex208 m24 h)
                · rw [if_neg c28] at h
                  refine rjf (a := (292, [(0, .ref 0)], [])) (b := (234, [(0, .ref 0)], [])) rfl rfl c28 ?_
                  refine rsn 2 (t := (236, [(0, .ref 0)], [.ref 0, .ref 0])) rfl ?_
                  refine pgJ rfl rfl rfl (hSh.k 0 rfl _) ?_
                  show RN xs L al (Ev xs L al d) 148 239 [(0, .ref 0)] [.long ((mJ m24 0 5)), .ref 0] (m24, S) none (mf, S)
                  refine rsn 2 (t := (243, [(0, .ref 0)], [.int ((lg_cmp ((mJ m24 0 5)) 999)), .ref 0])) rfl ?_
                  have jp276 : ∀ (s29 : Int64), (f_Mo_next_L208 N (fun (m23 : Mm) => some (vI m23 0 3 2)) n208 ((vI (vJ m24 0 5 s29) 0 2 ((((mI m24 0 2)) + 1))))) = some mf → RN xs L al (Ev xs L al d) 148 276 [(0, .ref 0)] [.long s29, .ref 0] (m24, S) none (mf, S) := by
                    intro s29 h
                    try dsimp only at h
                    refine ppJ rfl rfl rfl rfl (hSh.k 0 rfl _) ?_
                    refine rsn 2 (t := (281, [(0, .ref 0)], [.ref 0, .ref 0])) rfl ?_
                    refine pgI rfl rfl rfl (hSh.k 0 rfl _) ?_
                    show RN xs L al (Ev xs L al d) 148 284 [(0, .ref 0)] [.int ((mI m24 0 2)), .ref 0] ((vJ m24 0 5 s29), S) none (mf, S)
                    refine rsn 2 (t := (286, [(0, .ref 0)], [.int ((((mI m24 0 2)) + 1)), .ref 0])) rfl ?_
                    refine ppI rfl rfl rfl rfl (hSh.k 0 rfl _) ?_
                    refine rsn 1 (t := (208, [(0, .ref 0)], [])) rfl ?_
                    exact rsub [(0, .ref 0)] ⟨rfl, trivial⟩ ⟨rfl, trivial⟩ (ih208 ((vI (vJ m24 0 5 s29) 0 2 ((((mI m24 0 2)) + 1)))) h)
                  rw [jn] at h
                  try dsimp only at h
                  by_cases c30 : ((mJ m24 0 5)) ≤ 999
                  · rw [if_pos c30] at h
                    refine rjt (a := (253, [(0, .ref 0)], [.ref 0])) (b := (246, [(0, .ref 0)], [.ref 0])) rfl rfl (lgc_le.mpr c30) ?_
                    refine rsn 2 (t := (257, [(0, .ref 0)], [.ref 0, .long 10, .ref 0])) rfl ?_
                    refine pgJ rfl rfl rfl (hSh.k 0 rfl _) ?_
                    show RN xs L al (Ev xs L al d) 148 260 [(0, .ref 0)] [.long ((mJ m24 0 5)), .long 10, .ref 0] (m24, S) none (mf, S)
                    refine rsn 2 (t := (262, [(0, .ref 0)], [.ref 0, .long ((10 * ((mJ m24 0 5)))), .ref 0])) rfl ?_
                    refine rgR rfl rfl rfl (hSh.k 0 rfl _) (hSh.r 0 rfl _) ?_
                    refine rsn 1 (t := (266, [(0, .ref 0)], [.ref 0, .ref 1, .long ((10 * ((mJ m24 0 5)))), .ref 0])) rfl ?_
                    refine pgI rfl rfl rfl (hSh.k 0 rfl _) ?_
                    show RN xs L al (Ev xs L al d) 148 269 [(0, .ref 0)] [.int ((mI m24 0 2)), .ref 1, .long ((10 * ((mJ m24 0 5)))), .ref 0] (m24, S) none (mf, S)
                    obtain ⟨c31, h⟩ := ck_some h
                    refine pxB rfl (Or.inl (hSh.k 1 rfl _)) (hSh.l 0 rfl _) c31 ?_
                    show RN xs L al (Ev xs L al d) 148 270 [(0, .ref 0)] [.int ((mX m24 1 (((mI m24 0 2)).toNatClampNeg))), .long ((10 * ((mJ m24 0 5)))), .ref 0] (m24, S) none (mf, S)
                    refine rsn 4 (t := (276, [(0, .ref 0)], [.long ((((((10 * ((mJ m24 0 5)))) + (((mX m24 1 (((mI m24 0 2)).toNatClampNeg))).toInt64))) - 48)), .ref 0])) rfl ?_
                    exact rsub [(0, .ref 0)] ⟨rfl, trivial⟩ ⟨rfl, trivial⟩ (jp276 ((((((10 * ((mJ m24 0 5)))) + (((mX m24 1 (((mI m24 0 2)).toNatClampNeg))).toInt64))) - 48)) h)
                  · rw [if_neg c30] at h
                    refine rjf (a := (253, [(0, .ref 0)], [.ref 0])) (b := (246, [(0, .ref 0)], [.ref 0])) rfl rfl (fun q => c30 (lgc_le.mp q)) ?_
                    refine rsn 1 (t := (247, [(0, .ref 0)], [.ref 0, .ref 0])) rfl ?_
                    refine pgJ rfl rfl rfl (hSh.k 0 rfl _) ?_
                    show RN xs L al (Ev xs L al d) 148 250 [(0, .ref 0)] [.long ((mJ m24 0 5)), .ref 0] (m24, S) none (mf, S)
                    refine rsn 1 (t := (276, [(0, .ref 0)], [.long ((mJ m24 0 5)), .ref 0])) rfl ?_
                    exact rsub [(0, .ref 0)] ⟨rfl, trivial⟩ ⟨rfl, trivial⟩ (jp276 ((mJ m24 0 5)) h)
          exact rsub [(0, .ref 0)] ⟨rfl, trivial⟩ ⟨rfl, trivial⟩ (lp208 N (vI (vJ (vI m6 0 4 ((mI m6 0 2))) 0 5 0) 0 3 0) h)
      · rw [if_neg c10] at h
        refine rjf (a := (201, [(1, .int ((mX m6 1 (((mI m6 0 2)).toNatClampNeg)))), (0, .ref 0)], [])) (b := (99, [(1, .int ((mX m6 1 (((mI m6 0 2)).toNatClampNeg)))), (0, .ref 0)], [])) rfl rfl c10 ?_
        have ex99 : ∀ (m38 : Mm), ((if ((((mI m38 0 2)) - ((mI m38 0 4)))) ≤ 8 then some (vI m38 0 3 1) else some (vI (vJ m38 0 5 0) 0 3 1))) = some mf → RN xs L al (Ev xs L al d) 148 174 [(0, .ref 0)] [] (m38, S) none (mf, S) := by
          intro m38 h
          try dsimp only at h
          refine rsn 1 (t := (175, [(0, .ref 0)], [.ref 0])) rfl ?_
          refine pgI rfl rfl rfl (hSh.k 0 rfl _) ?_
          show RN xs L al (Ev xs L al d) 148 178 [(0, .ref 0)] [.int ((mI m38 0 2))] (m38, S) none (mf, S)
          refine rsn 1 (t := (179, [(0, .ref 0)], [.ref 0, .int ((mI m38 0 2))])) rfl ?_
          refine pgI rfl rfl rfl (hSh.k 0 rfl _) ?_
          show RN xs L al (Ev xs L al d) 148 182 [(0, .ref 0)] [.int ((mI m38 0 4)), .int ((mI m38 0 2))] (m38, S) none (mf, S)
          refine rsn 2 (t := (185, [(0, .ref 0)], [.int 8, .int ((((mI m38 0 2)) - ((mI m38 0 4))))])) rfl ?_
          by_cases c39 : ((((mI m38 0 2)) - ((mI m38 0 4)))) ≤ 8
          · rw [if_pos c39] at h
            refine rjt (a := (193, [(0, .ref 0)], [])) (b := (188, [(0, .ref 0)], [])) rfl rfl c39 ?_
            refine rsn 2 (t := (195, [(0, .ref 0)], [.int 1, .ref 0])) rfl ?_
            refine ppI rfl rfl rfl rfl (hSh.k 0 rfl _) ?_
            refine rsn 1 (t := (337, [(0, .ref 0)], [])) rfl ?_
            cases h
            exact rret rfl ⟨rfl, rfl, rfl, rfl, rfl⟩
          · rw [if_neg c39] at h
            refine rjf (a := (193, [(0, .ref 0)], [])) (b := (188, [(0, .ref 0)], [])) rfl rfl c39 ?_
            refine rsn 2 (t := (190, [(0, .ref 0)], [.long 0, .ref 0])) rfl ?_
            refine ppJ rfl rfl rfl rfl (hSh.k 0 rfl _) ?_
            refine rsn 2 (t := (195, [(0, .ref 0)], [.int 1, .ref 0])) rfl ?_
            refine ppI rfl rfl rfl rfl (hSh.k 0 rfl _) ?_
            refine rsn 1 (t := (337, [(0, .ref 0)], [])) rfl ?_
            cases h
            exact rret rfl ⟨rfl, rfl, rfl, rfl, rfl⟩
        have lp99 : ∀ (n : Nat) (m40 : Mm), (f_Mo_next_L99 N (fun (m38 : Mm) => (if ((((mI m38 0 2)) - ((mI m38 0 4)))) ≤ 8 then some (vI m38 0 3 1) else some (vI (vJ m38 0 5 0) 0 3 1))) n m40) = some mf → RN xs L al (Ev xs L al d) 148 99 [(0, .ref 0)] [] (m40, S) none (mf, S) := by
          intro n
          induction n with
          | zero => intro m40 h; exact absurd h (by simp [f_Mo_next_L99])
          | succ n99 ih99 =>
            intro m40 h
            try dsimp only at h
            rw [f_Mo_next_L99] at h
            try dsimp only at h
            refine rsn 1 (t := (100, [(0, .ref 0)], [.ref 0])) rfl ?_
            refine pgI rfl rfl rfl (hSh.k 0 rfl _) ?_
            show RN xs L al (Ev xs L al d) 148 103 [(0, .ref 0)] [.int ((mI m40 0 2))] (m40, S) none (mf, S)
            refine rsn 1 (t := (104, [(0, .ref 0)], [.ref 0, .int ((mI m40 0 2))])) rfl ?_
            refine pgI rfl rfl rfl (hSh.k 0 rfl _) ?_
            show RN xs L al (Ev xs L al d) 148 107 [(0, .ref 0)] [.int ((mI m40 0 1)), .int ((mI m40 0 2))] (m40, S) none (mf, S)
            by_cases c41 : ((mI m40 0 1)) ≤ ((mI m40 0 2))
            · rw [if_pos c41] at h
              refine rjt (a := (174, [(0, .ref 0)], [])) (b := (110, [(0, .ref 0)], [])) rfl rfl c41 ?_
              exact rsub [(0, .ref 0)] ⟨rfl, trivial⟩ ⟨rfl, trivial⟩ (ex99 m40 h)
            · rw [if_neg c41] at h
              refine rjf (a := (174, [(0, .ref 0)], [])) (b := (110, [(0, .ref 0)], [])) rfl rfl c41 ?_
              refine rsn 1 (t := (111, [(0, .ref 0)], [.ref 0])) rfl ?_
              refine rgR rfl rfl rfl (hSh.k 0 rfl _) (hSh.r 0 rfl _) ?_
              refine rsn 1 (t := (115, [(0, .ref 0)], [.ref 0, .ref 1])) rfl ?_
              refine pgI rfl rfl rfl (hSh.k 0 rfl _) ?_
              show RN xs L al (Ev xs L al d) 148 118 [(0, .ref 0)] [.int ((mI m40 0 2)), .ref 1] (m40, S) none (mf, S)
              obtain ⟨c42, h⟩ := ck_some h
              refine pxB rfl (Or.inl (hSh.k 1 rfl _)) (hSh.l 0 rfl _) c42 ?_
              show RN xs L al (Ev xs L al d) 148 119 [(0, .ref 0)] [.int ((mX m40 1 (((mI m40 0 2)).toNatClampNeg)))] (m40, S) none (mf, S)
              obtain ⟨r43, g43, h⟩ := b1_some h
              refine rcS 149 [.int ((mX m40 1 (((mI m40 0 2)).toNatClampNeg)))] rfl rfl rfl (Nat.le_of_ble_eq_true rfl) rfl (e_Mo_isLetter N (by omega) g43) ?_
              show RN xs L al (Ev xs L al d) 148 122 [(0, .ref 0)] [.int r43] (m40, S) none (mf, S)
              by_cases c44 : r43 = 0
              · rw [if_pos c44] at h
                refine rjt (a := (174, [(0, .ref 0)], [])) (b := (125, [(0, .ref 0)], [])) rfl rfl c44 ?_
                exact rsub [(0, .ref 0)] ⟨rfl, trivial⟩ ⟨rfl, trivial⟩ (ex99 m40 h)
              · rw [if_neg c44] at h
                refine rjf (a := (174, [(0, .ref 0)], [])) (b := (125, [(0, .ref 0)], [])) rfl rfl c44 ?_
                refine rsn 1 (t := (126, [(0, .ref 0)], [.ref 0])) rfl ?_
                refine pgI rfl rfl rfl (hSh.k 0 rfl _) ?_
                show RN xs L al (Ev xs L al d) 148 129 [(0, .ref 0)] [.int ((mI m40 0 2))] (m40, S) none (mf, S)
                refine rsn 1 (t := (130, [(0, .ref 0)], [.ref 0, .int ((mI m40 0 2))])) rfl ?_
                refine pgI rfl rfl rfl (hSh.k 0 rfl _) ?_
                show RN xs L al (Ev xs L al d) 148 133 [(0, .ref 0)] [.int ((mI m40 0 4)), .int ((mI m40 0 2))] (m40, S) none (mf, S)
                refine rsn 2 (t := (136, [(0, .ref 0)], [.int 8, .int ((((mI m40 0 2)) - ((mI m40 0 4))))])) rfl ?_
                by_cases c45 : 8 ≤ ((((mI m40 0 2)) - ((mI m40 0 4))))
                · rw [if_pos c45] at h
                  refine rjt (a := (161, [(0, .ref 0)], [])) (b := (139, [(0, .ref 0)], [])) rfl rfl c45 ?_
                  refine rsn 2 (t := (163, [(0, .ref 0)], [.ref 0, .ref 0])) rfl ?_
                  refine pgI rfl rfl rfl (hSh.k 0 rfl _) ?_
                  show RN xs L al (Ev xs L al d) 148 166 [(0, .ref 0)] [.int ((mI m40 0 2)), .ref 0] (m40, S) none (mf, S)
                  refine rsn 2 (t := (168, [(0, .ref 0)], [.int ((((mI m40 0 2)) + 1)), .ref 0])) rfl ?_
                  refine ppI rfl rfl rfl rfl (hSh.k 0 rfl _) ?_
                  refine rsn 1 (t := (99, [(0, .ref 0)], [])) rfl ?_
                  exact rsub [(0, .ref 0)] ⟨rfl, trivial⟩ ⟨rfl, trivial⟩ (ih99 ((vI m40 0 2 ((((mI m40 0 2)) + 1)))) h)
                · rw [if_neg c45] at h
                  refine rjf (a := (161, [(0, .ref 0)], [])) (b := (139, [(0, .ref 0)], [])) rfl rfl c45 ?_
                  refine rsn 2 (t := (141, [(0, .ref 0)], [.ref 0, .ref 0])) rfl ?_
                  refine pgJ rfl rfl rfl (hSh.k 0 rfl _) ?_
                  show RN xs L al (Ev xs L al d) 148 144 [(0, .ref 0)] [.long ((mJ m40 0 5)), .ref 0] (m40, S) none (mf, S)
                  refine rsn 1 (t := (146, [(0, .ref 0)], [.int 8, .long ((mJ m40 0 5)), .ref 0])) rfl ?_
                  refine rsn 1 (t := (147, [(0, .ref 0)], [.long ((lsl ((mJ m40 0 5)) 8)), .ref 0])) rfl ?_
                  refine rsn 1 (t := (148, [(0, .ref 0)], [.ref 0, .long ((lsl ((mJ m40 0 5)) 8)), .ref 0])) rfl ?_
                  refine rgR rfl rfl rfl (hSh.k 0 rfl _) (hSh.r 0 rfl _) ?_
                  refine rsn 1 (t := (152, [(0, .ref 0)], [.ref 0, .ref 1, .long ((lsl ((mJ m40 0 5)) 8)), .ref 0])) rfl ?_
                  refine pgI rfl rfl rfl (hSh.k 0 rfl _) ?_
                  show RN xs L al (Ev xs L al d) 148 155 [(0, .ref 0)] [.int ((mI m40 0 2)), .ref 1, .long ((lsl ((mJ m40 0 5)) 8)), .ref 0] (m40, S) none (mf, S)
                  obtain ⟨c46, h⟩ := ck_some h
                  refine pxB rfl (Or.inl (hSh.k 1 rfl _)) (hSh.l 0 rfl _) c46 ?_
                  show RN xs L al (Ev xs L al d) 148 156 [(0, .ref 0)] [.int ((mX m40 1 (((mI m40 0 2)).toNatClampNeg))), .long ((lsl ((mJ m40 0 5)) 8)), .ref 0] (m40, S) none (mf, S)
                  refine rsn 2 (t := (158, [(0, .ref 0)], [.long ((((lsl ((mJ m40 0 5)) 8)) ||| (((mX m40 1 (((mI m40 0 2)).toNatClampNeg))).toInt64))), .ref 0])) rfl ?_
                  refine ppJ rfl rfl rfl rfl (hSh.k 0 rfl _) ?_
                  refine rsn 2 (t := (163, [(0, .ref 0)], [.ref 0, .ref 0])) rfl ?_
                  refine pgI rfl rfl rfl (hSh.k 0 rfl _) ?_
                  show RN xs L al (Ev xs L al d) 148 166 [(0, .ref 0)] [.int ((mI m40 0 2)), .ref 0] ((vJ m40 0 5 ((((lsl ((mJ m40 0 5)) 8)) ||| (((mX m40 1 (((mI m40 0 2)).toNatClampNeg))).toInt64)))), S) none (mf, S)
                  refine rsn 2 (t := (168, [(0, .ref 0)], [.int ((((mI m40 0 2)) + 1)), .ref 0])) rfl ?_
                  refine ppI rfl rfl rfl rfl (hSh.k 0 rfl _) ?_
                  refine rsn 1 (t := (99, [(0, .ref 0)], [])) rfl ?_
                  exact rsub [(0, .ref 0)] ⟨rfl, trivial⟩ ⟨rfl, trivial⟩ (ih99 ((vI (vJ m40 0 5 ((((lsl ((mJ m40 0 5)) 8)) ||| (((mX m40 1 (((mI m40 0 2)).toNatClampNeg))).toInt64)))) 0 2 ((((mI m40 0 2)) + 1)))) h)
        exact rsub [(0, .ref 0)] ⟨rfl, trivial⟩ ⟨rfl, trivial⟩ (lp99 N (vI (vJ (vI m6 0 4 ((mI m6 0 2))) 0 5 0) 0 3 0) h)
  have lp0 : ∀ (n : Nat) (m47 : Mm), (f_Mo_next_L0 N (fun (m6 : Mm) => (if ((mI m6 0 2)) = ((mI m6 0 1)) then some (vI (vJ (vI m6 0 4 ((mI m6 0 2))) 0 5 0) 0 3 0) else ck (ix ((mI m6 0 2)) 400) (b1 (f_Mo_isLetter N ((mX m6 1 (((mI m6 0 2)).toNatClampNeg)))) fun r9 => (if r9 = 0 then b1 (f_Mo_isDigit N ((mX m6 1 (((mI m6 0 2)).toNatClampNeg)))) fun r11 => (if r11 = 0 then (jn (fun (s13 : Int32) => some (vI (vJ (vI (vI (vJ (vI m6 0 4 ((mI m6 0 2))) 0 5 0) 0 3 0) 0 3 s13) 0 5 (((mX m6 1 (((mI m6 0 2)).toNatClampNeg))).toInt64)) 0 2 ((((mI m6 0 2)) + 1)))) (fun j318 => jn (fun (_ : Unit) => j318 3) (fun j313 => if ((mX m6 1 (((mI m6 0 2)).toNatClampNeg))) = 44 then j313 () else (if ((mX m6 1 (((mI m6 0 2)).toNatClampNeg))) = 59 then j313 () else j318 4)))) else f_Mo_next_L208 N (fun (m23 : Mm) => some (vI m23 0 3 2)) N (vI (vJ (vI m6 0 4 ((mI m6 0 2))) 0 5 0) 0 3 0)) else f_Mo_next_L99 N (fun (m38 : Mm) => (if ((((mI m38 0 2)) - ((mI m38 0 4)))) ≤ 8 then some (vI m38 0 3 1) else some (vI (vJ m38 0 5 0) 0 3 1))) N (vI (vJ (vI m6 0 4 ((mI m6 0 2))) 0 5 0) 0 3 0))))) n m47) = some mf → RN xs L al (Ev xs L al d) 148 0 [(0, .ref 0)] [] (m47, S) none (mf, S) := by
    intro n
    induction n with
    | zero => intro m47 h; exact absurd h (by simp [f_Mo_next_L0])
    | succ n0 ih0 =>
      intro m47 h
      try dsimp only at h
      rw [f_Mo_next_L0] at h
      try dsimp only at h
      refine rsn 1 (t := (1, [(0, .ref 0)], [.ref 0])) rfl ?_
      refine pgI rfl rfl rfl (hSh.k 0 rfl _) ?_
      show RN xs L al (Ev xs L al d) 148 4 [(0, .ref 0)] [.int ((mI m47 0 2))] (m47, S) none (mf, S)
      refine rsn 1 (t := (5, [(0, .ref 0)], [.ref 0, .int ((mI m47 0 2))])) rfl ?_
      refine pgI rfl rfl rfl (hSh.k 0 rfl _) ?_
      show RN xs L al (Ev xs L al d) 148 8 [(0, .ref 0)] [.int ((mI m47 0 1)), .int ((mI m47 0 2))] (m47, S) none (mf, S)
      by_cases c48 : ((mI m47 0 1)) ≤ ((mI m47 0 2))
      · rw [if_pos c48] at h
        refine rjt (a := (52, [(0, .ref 0)], [])) (b := (11, [(0, .ref 0)], [])) rfl rfl c48 ?_
        exact rsub [(0, .ref 0)] ⟨rfl, trivial⟩ ⟨rfl, trivial⟩ (ex0 m47 h)
      · rw [if_neg c48] at h
        refine rjf (a := (52, [(0, .ref 0)], [])) (b := (11, [(0, .ref 0)], [])) rfl rfl c48 ?_
        refine rsn 1 (t := (12, [(0, .ref 0)], [.ref 0])) rfl ?_
        refine rgR rfl rfl rfl (hSh.k 0 rfl _) (hSh.r 0 rfl _) ?_
        refine rsn 1 (t := (16, [(0, .ref 0)], [.ref 0, .ref 1])) rfl ?_
        refine pgI rfl rfl rfl (hSh.k 0 rfl _) ?_
        show RN xs L al (Ev xs L al d) 148 19 [(0, .ref 0)] [.int ((mI m47 0 2)), .ref 1] (m47, S) none (mf, S)
        obtain ⟨c49, h⟩ := ck_some h
        refine pxB rfl (Or.inl (hSh.k 1 rfl _)) (hSh.l 0 rfl _) c49 ?_
        show RN xs L al (Ev xs L al d) 148 20 [(0, .ref 0)] [.int ((mX m47 1 (((mI m47 0 2)).toNatClampNeg)))] (m47, S) none (mf, S)
        refine rsn 1 (t := (22, [(0, .ref 0)], [.int 32, .int ((mX m47 1 (((mI m47 0 2)).toNatClampNeg)))])) rfl ?_
        by_cases c50 : ((mX m47 1 (((mI m47 0 2)).toNatClampNeg))) = 32
        · rw [if_pos c50] at h
          refine rjt (a := (39, [(0, .ref 0)], [])) (b := (25, [(0, .ref 0)], [])) rfl rfl c50 ?_
          refine rsn 2 (t := (41, [(0, .ref 0)], [.ref 0, .ref 0])) rfl ?_
          refine pgI rfl rfl rfl (hSh.k 0 rfl _) ?_
          show RN xs L al (Ev xs L al d) 148 44 [(0, .ref 0)] [.int ((mI m47 0 2)), .ref 0] (m47, S) none (mf, S)
          refine rsn 2 (t := (46, [(0, .ref 0)], [.int ((((mI m47 0 2)) + 1)), .ref 0])) rfl ?_
          refine ppI rfl rfl rfl rfl (hSh.k 0 rfl _) ?_
          refine rsn 1 (t := (0, [(0, .ref 0)], [])) rfl ?_
          exact rsub [(0, .ref 0)] ⟨rfl, trivial⟩ ⟨rfl, trivial⟩ (ih0 ((vI m47 0 2 ((((mI m47 0 2)) + 1)))) h)
        · rw [if_neg c50] at h
          refine rjf (a := (39, [(0, .ref 0)], [])) (b := (25, [(0, .ref 0)], [])) rfl rfl c50 ?_
          refine rsn 1 (t := (26, [(0, .ref 0)], [.ref 0])) rfl ?_
          refine rgR rfl rfl rfl (hSh.k 0 rfl _) (hSh.r 0 rfl _) ?_
          refine rsn 1 (t := (30, [(0, .ref 0)], [.ref 0, .ref 1])) rfl ?_
          refine pgI rfl rfl rfl (hSh.k 0 rfl _) ?_
          show RN xs L al (Ev xs L al d) 148 33 [(0, .ref 0)] [.int ((mI m47 0 2)), .ref 1] (m47, S) none (mf, S)
          obtain ⟨c51, h⟩ := ck_some h
          refine pxB rfl (Or.inl (hSh.k 1 rfl _)) (hSh.l 0 rfl _) c51 ?_
          show RN xs L al (Ev xs L al d) 148 34 [(0, .ref 0)] [.int ((mX m47 1 (((mI m47 0 2)).toNatClampNeg)))] (m47, S) none (mf, S)
          refine rsn 1 (t := (36, [(0, .ref 0)], [.int 10, .int ((mX m47 1 (((mI m47 0 2)).toNatClampNeg)))])) rfl ?_
          by_cases c52 : ((mX m47 1 (((mI m47 0 2)).toNatClampNeg))) = 10
          · rw [if_pos c52] at h
            refine rjf (a := (52, [(0, .ref 0)], [])) (b := (39, [(0, .ref 0)], [])) rfl rfl (fun q => q c52) ?_
            refine rsn 2 (t := (41, [(0, .ref 0)], [.ref 0, .ref 0])) rfl ?_
            refine pgI rfl rfl rfl (hSh.k 0 rfl _) ?_
            show RN xs L al (Ev xs L al d) 148 44 [(0, .ref 0)] [.int ((mI m47 0 2)), .ref 0] (m47, S) none (mf, S)
            refine rsn 2 (t := (46, [(0, .ref 0)], [.int ((((mI m47 0 2)) + 1)), .ref 0])) rfl ?_
            refine ppI rfl rfl rfl rfl (hSh.k 0 rfl _) ?_
            refine rsn 1 (t := (0, [(0, .ref 0)], [])) rfl ?_
            exact rsub [(0, .ref 0)] ⟨rfl, trivial⟩ ⟨rfl, trivial⟩ (ih0 ((vI m47 0 2 ((((mI m47 0 2)) + 1)))) h)
          · rw [if_neg c52] at h
            refine rjt (a := (52, [(0, .ref 0)], [])) (b := (39, [(0, .ref 0)], [])) rfl rfl c52 ?_
            exact rsub [(0, .ref 0)] ⟨rfl, trivial⟩ ⟨rfl, trivial⟩ (ex0 m47 h)
  exact rsub [(0, .ref 0)] ⟨rfl, trivial⟩ ⟨rfl, trivial⟩ (lp0 N m h)
def f_Mo_isWord (N : Nat) (x1 : Nat) (m : Mm) : Option (Int32) := (if ((mI m 0 3)) = 1 then b1 (f_Mo_packed N x1) fun r2 => (if ((mJ m 0 5)) = r2 then some 1 else some 0) else some 0)
set_option maxRecDepth 20000 in
set_option maxHeartbeats 4000000 in
theorem e_Mo_isWord {xs : Nat → Int32} {L : Nat} {al : Bool} (N : Nat) {d : Nat} (hd : 6 ≤ d) {S : St} (hSh : ShR S) {x1 : Nat} (hx1 : x1 < 8) {m : Mm} {r0 : Int32} (h : f_Mo_isWord N x1 m = some r0) : Ev xs L al d 152 [.ref 0, .retAddr x1] (m, S) (some (.int r0)) (m, S) := by
  obtain ⟨d, rfl⟩ : ∃ e, d = e + 1 := ⟨d - 1, by omega⟩
  refine ev_of (by decide) (Nat.le_of_ble_eq_true rfl) ?_
  rw [f_Mo_isWord] at h
  show RN xs L al (Ev xs L al d) 152 0 [(0, .ref 0), (1, .retAddr x1)] [] (m, S) (some (.int r0)) (m, S)
  refine rsn 1 (t := (1, [(0, .ref 0), (1, .retAddr x1)], [.ref 0])) rfl ?_
  refine pgI rfl rfl rfl (hSh.k 0 rfl _) ?_
  show RN xs L al (Ev xs L al d) 152 4 [(0, .ref 0), (1, .retAddr x1)] [.int ((mI m 0 3))] (m, S) (some (.int r0)) (m, S)
  refine rsn 1 (t := (5, [(0, .ref 0), (1, .retAddr x1)], [.int 1, .int ((mI m 0 3))])) rfl ?_
  by_cases c1 : ((mI m 0 3)) = 1
  · rw [if_pos c1] at h
    refine rjf (a := (24, [(0, .ref 0), (1, .retAddr x1)], [])) (b := (8, [(0, .ref 0), (1, .retAddr x1)], [])) rfl rfl (fun q => q c1) ?_
    refine rsn 1 (t := (9, [(0, .ref 0), (1, .retAddr x1)], [.ref 0])) rfl ?_
    refine pgJ rfl rfl rfl (hSh.k 0 rfl _) ?_
    show RN xs L al (Ev xs L al d) 152 12 [(0, .ref 0), (1, .retAddr x1)] [.long ((mJ m 0 5))] (m, S) (some (.int r0)) (m, S)
    refine rsn 1 (t := (13, [(0, .ref 0), (1, .retAddr x1)], [.retAddr x1, .long ((mJ m 0 5))])) rfl ?_
    obtain ⟨r2, g2, h⟩ := b1_some h
    refine rcS 153 [.retAddr x1] rfl rfl rfl (Nat.le_of_ble_eq_true rfl) rfl (e_Mo_packed N (by omega) hx1 g2) ?_
    show RN xs L al (Ev xs L al d) 152 16 [(0, .ref 0), (1, .retAddr x1)] [.long r2, .long ((mJ m 0 5))] (m, S) (some (.int r0)) (m, S)
    refine rsn 1 (t := (17, [(0, .ref 0), (1, .retAddr x1)], [.int ((lg_cmp ((mJ m 0 5)) r2))])) rfl ?_
    by_cases c3 : ((mJ m 0 5)) = r2
    · rw [if_pos c3] at h
      refine rjf (a := (24, [(0, .ref 0), (1, .retAddr x1)], [])) (b := (20, [(0, .ref 0), (1, .retAddr x1)], [])) rfl rfl (fun q => q (lgc_eq.mpr c3)) ?_
      refine rsn 2 (t := (25, [(0, .ref 0), (1, .retAddr x1)], [.int 1])) rfl ?_
      cases h
      exact rret rfl ⟨rfl, rfl, _, _, rfl, rfl, rfl, rfl⟩
    · rw [if_neg c3] at h
      refine rjt (a := (24, [(0, .ref 0), (1, .retAddr x1)], [])) (b := (20, [(0, .ref 0), (1, .retAddr x1)], [])) rfl rfl (fun q => c3 (lgc_eq.mp q)) ?_
      refine rsn 1 (t := (25, [(0, .ref 0), (1, .retAddr x1)], [.int 0])) rfl ?_
      cases h
      exact rret rfl ⟨rfl, rfl, _, _, rfl, rfl, rfl, rfl⟩
  · rw [if_neg c1] at h
    refine rjt (a := (24, [(0, .ref 0), (1, .retAddr x1)], [])) (b := (8, [(0, .ref 0), (1, .retAddr x1)], [])) rfl rfl c1 ?_
    refine rsn 1 (t := (25, [(0, .ref 0), (1, .retAddr x1)], [.int 0])) rfl ?_
    cases h
    exact rret rfl ⟨rfl, rfl, _, _, rfl, rfl, rfl, rfl⟩
def f_Mo_isSign (N : Nat) (x1 : Int32) (m : Mm) : Option (Int32) := (if ((mI m 0 3)) = 3 then (if ((mJ m 0 5)) = x1.toInt64 then some 1 else some 0) else some 0)
set_option maxRecDepth 20000 in
set_option maxHeartbeats 4000000 in
theorem e_Mo_isSign {xs : Nat → Int32} {L : Nat} {al : Bool} (N : Nat) {d : Nat} (hd : 1 ≤ d) {S : St} (hSh : ShR S) {x1 : Int32} {m : Mm} {r0 : Int32} (h : f_Mo_isSign N x1 m = some r0) : Ev xs L al d 166 [.ref 0, .int x1] (m, S) (some (.int r0)) (m, S) := by
  obtain ⟨d, rfl⟩ : ∃ e, d = e + 1 := ⟨d - 1, by omega⟩
  refine ev_of (by decide) (Nat.le_of_ble_eq_true rfl) ?_
  rw [f_Mo_isSign] at h
  show RN xs L al (Ev xs L al d) 166 0 [(0, .ref 0), (1, .int x1)] [] (m, S) (some (.int r0)) (m, S)
  refine rsn 1 (t := (1, [(0, .ref 0), (1, .int x1)], [.ref 0])) rfl ?_
  refine pgI rfl rfl rfl (hSh.k 0 rfl _) ?_
  show RN xs L al (Ev xs L al d) 166 4 [(0, .ref 0), (1, .int x1)] [.int ((mI m 0 3))] (m, S) (some (.int r0)) (m, S)
  refine rsn 1 (t := (5, [(0, .ref 0), (1, .int x1)], [.int 3, .int ((mI m 0 3))])) rfl ?_
  by_cases c1 : ((mI m 0 3)) = 3
  · rw [if_pos c1] at h
    refine rjf (a := (22, [(0, .ref 0), (1, .int x1)], [])) (b := (8, [(0, .ref 0), (1, .int x1)], [])) rfl rfl (fun q => q c1) ?_
    refine rsn 1 (t := (9, [(0, .ref 0), (1, .int x1)], [.ref 0])) rfl ?_
    refine pgJ rfl rfl rfl (hSh.k 0 rfl _) ?_
    show RN xs L al (Ev xs L al d) 166 12 [(0, .ref 0), (1, .int x1)] [.long ((mJ m 0 5))] (m, S) (some (.int r0)) (m, S)
    refine rsn 3 (t := (15, [(0, .ref 0), (1, .int x1)], [.int ((lg_cmp ((mJ m 0 5)) x1.toInt64))])) rfl ?_
    by_cases c2 : ((mJ m 0 5)) = x1.toInt64
    · rw [if_pos c2] at h
      refine rjf (a := (22, [(0, .ref 0), (1, .int x1)], [])) (b := (18, [(0, .ref 0), (1, .int x1)], [])) rfl rfl (fun q => q (lgc_eq.mpr c2)) ?_
      refine rsn 2 (t := (23, [(0, .ref 0), (1, .int x1)], [.int 1])) rfl ?_
      cases h
      exact rret rfl ⟨rfl, rfl, _, _, rfl, rfl, rfl, rfl⟩
    · rw [if_neg c2] at h
      refine rjt (a := (22, [(0, .ref 0), (1, .int x1)], [])) (b := (18, [(0, .ref 0), (1, .int x1)], [])) rfl rfl (fun q => c2 (lgc_eq.mp q)) ?_
      refine rsn 1 (t := (23, [(0, .ref 0), (1, .int x1)], [.int 0])) rfl ?_
      cases h
      exact rret rfl ⟨rfl, rfl, _, _, rfl, rfl, rfl, rfl⟩
  · rw [if_neg c1] at h
    refine rjt (a := (22, [(0, .ref 0), (1, .int x1)], [])) (b := (8, [(0, .ref 0), (1, .int x1)], [])) rfl rfl c1 ?_
    refine rsn 1 (t := (23, [(0, .ref 0), (1, .int x1)], [.int 0])) rfl ?_
    cases h
    exact rret rfl ⟨rfl, rfl, _, _, rfl, rfl, rfl, rfl⟩
def f_Mo_closes (N : Nat) (m : Mm) : Option (Int32 × Mm) := b1 (f_Mo_isSign N 59 m) fun r1 => (if r1 = 0 then some (0, m) else b3 (f_Mo_next N m) fun m3 => some (1, m3))
set_option maxRecDepth 20000 in
set_option maxHeartbeats 4000000 in
theorem e_Mo_closes {xs : Nat → Int32} {L : Nat} {al : Bool} (N : Nat) {d : Nat} (hd : 3 ≤ d) {S : St} (hSh : ShR S) {m : Mm} {r0 : Int32} {mf : Mm} (h : f_Mo_closes N m = some (r0, mf)) : Ev xs L al d 165 [.ref 0] (m, S) (some (.int r0)) (mf, S) := by
  obtain ⟨d, rfl⟩ : ∃ e, d = e + 1 := ⟨d - 1, by omega⟩
  refine ev_of (by decide) (Nat.le_of_ble_eq_true rfl) ?_
  rw [f_Mo_closes] at h
  show RN xs L al (Ev xs L al d) 165 0 [(0, .ref 0)] [] (m, S) (some (.int r0)) (mf, S)
  refine rsn 2 (t := (3, [(0, .ref 0)], [.int 59, .ref 0])) rfl ?_
  obtain ⟨r1, g1, h⟩ := b1_some h
  refine rcV 166 0 [.int 59] rfl rfl rfl (hSh.k 0 rfl _) (Nat.le_of_ble_eq_true rfl) rfl (e_Mo_isSign N (by omega) hSh g1) ?_
  show RN xs L al (Ev xs L al d) 165 6 [(0, .ref 0)] [.int r1] (m, S) (some (.int r0)) (mf, S)
  by_cases c2 : r1 = 0
  · rw [if_pos c2] at h
    refine rjf (a := (11, [(0, .ref 0)], [])) (b := (9, [(0, .ref 0)], [])) rfl rfl (fun q => q c2) ?_
    refine rsn 1 (t := (10, [(0, .ref 0)], [.int 0])) rfl ?_
    cases h
    exact rret rfl ⟨rfl, rfl, _, _, rfl, rfl, rfl, rfl⟩
  · rw [if_neg c2] at h
    refine rjt (a := (11, [(0, .ref 0)], [])) (b := (9, [(0, .ref 0)], [])) rfl rfl c2 ?_
    refine rsn 1 (t := (12, [(0, .ref 0)], [.ref 0])) rfl ?_
    obtain ⟨m3, g3, h⟩ := b3_some h
    refine rcV 148 0 [] rfl rfl rfl (hSh.k 0 rfl _) (Nat.le_of_ble_eq_true rfl) rfl (e_Mo_next N (by omega) hSh g3) ?_
    show RN xs L al (Ev xs L al d) 165 15 [(0, .ref 0)] [] (m3, S) (some (.int r0)) (mf, S)
    refine rsn 1 (t := (16, [(0, .ref 0)], [.int 1])) rfl ?_
    cases h
    exact rret rfl ⟨rfl, rfl, _, _, rfl, rfl, rfl, rfl⟩
def f_Mo_isName (N : Nat) (m : Mm) : Option (Int32) := (if ((mI m 0 3)) = 1 then (if ((mJ m 0 5)) = 0 then some 0 else b1 (f_Mo_isWord N 0 m) fun r3 => (if r3 = 0 then b1 (f_Mo_isWord N 1 m) fun r5 => (if r5 = 0 then b1 (f_Mo_isWord N 2 m) fun r7 => (if r7 = 0 then b1 (f_Mo_isWord N 3 m) fun r9 => (if r9 = 0 then b1 (f_Mo_isWord N 4 m) fun r11 => (if r11 = 0 then b1 (f_Mo_isWord N 5 m) fun r13 => (if r13 = 0 then b1 (f_Mo_isWord N 6 m) fun r15 => (if r15 = 0 then b1 (f_Mo_isWord N 7 m) fun r17 => (if r17 = 0 then some 1 else some 0) else some 0) else some 0) else some 0) else some 0) else some 0) else some 0) else some 0)) else some 0)
set_option maxRecDepth 20000 in
set_option maxHeartbeats 4000000 in
theorem e_Mo_isName {xs : Nat → Int32} {L : Nat} {al : Bool} (N : Nat) {d : Nat} (hd : 7 ≤ d) {S : St} (hSh : ShR S) {m : Mm} {r0 : Int32} (h : f_Mo_isName N m = some r0) : Ev xs L al d 162 [.ref 0] (m, S) (some (.int r0)) (m, S) := by
  obtain ⟨d, rfl⟩ : ∃ e, d = e + 1 := ⟨d - 1, by omega⟩
  refine ev_of (by decide) (Nat.le_of_ble_eq_true rfl) ?_
  rw [f_Mo_isName] at h
  show RN xs L al (Ev xs L al d) 162 0 [(0, .ref 0)] [] (m, S) (some (.int r0)) (m, S)
  refine rsn 1 (t := (1, [(0, .ref 0)], [.ref 0])) rfl ?_
  refine pgI rfl rfl rfl (hSh.k 0 rfl _) ?_
  show RN xs L al (Ev xs L al d) 162 4 [(0, .ref 0)] [.int ((mI m 0 3))] (m, S) (some (.int r0)) (m, S)
  refine rsn 1 (t := (5, [(0, .ref 0)], [.int 1, .int ((mI m 0 3))])) rfl ?_
  by_cases c1 : ((mI m 0 3)) = 1
  · rw [if_pos c1] at h
    refine rjf (a := (93, [(0, .ref 0)], [])) (b := (8, [(0, .ref 0)], [])) rfl rfl (fun q => q c1) ?_
    refine rsn 1 (t := (9, [(0, .ref 0)], [.ref 0])) rfl ?_
    refine pgJ rfl rfl rfl (hSh.k 0 rfl _) ?_
    show RN xs L al (Ev xs L al d) 162 12 [(0, .ref 0)] [.long ((mJ m 0 5))] (m, S) (some (.int r0)) (m, S)
    refine rsn 2 (t := (14, [(0, .ref 0)], [.int ((lg_cmp ((mJ m 0 5)) 0))])) rfl ?_
    by_cases c2 : ((mJ m 0 5)) = 0
    · rw [if_pos c2] at h
      refine rjt (a := (93, [(0, .ref 0)], [])) (b := (17, [(0, .ref 0)], [])) rfl rfl (lgc_eq.mpr c2) ?_
      refine rsn 1 (t := (94, [(0, .ref 0)], [.int 0])) rfl ?_
      cases h
      exact rret rfl ⟨rfl, rfl, _, _, rfl, rfl, rfl, rfl⟩
    · rw [if_neg c2] at h
      refine rjf (a := (93, [(0, .ref 0)], [])) (b := (17, [(0, .ref 0)], [])) rfl rfl (fun q => c2 (lgc_eq.mp q)) ?_
      refine rsn 1 (t := (18, [(0, .ref 0)], [.ref 0])) rfl ?_
      refine rm (st1 := [.retAddr 0, .ref 0]) rfl ⟨rfl, rfl, 0, rfl, rfl⟩ ?_
      obtain ⟨r3, g3, h⟩ := b1_some h
      refine rcV 152 0 [.retAddr 0] rfl rfl rfl (hSh.k 0 rfl _) (Nat.le_of_ble_eq_true rfl) rfl (e_Mo_isWord N (by omega) hSh (by decide) g3) ?_
      show RN xs L al (Ev xs L al d) 162 23 [(0, .ref 0)] [.int r3] (m, S) (some (.int r0)) (m, S)
      by_cases c4 : r3 = 0
      · rw [if_pos c4] at h
        refine rjf (a := (93, [(0, .ref 0)], [])) (b := (26, [(0, .ref 0)], [])) rfl rfl (fun q => q c4) ?_
        refine rsn 1 (t := (27, [(0, .ref 0)], [.ref 0])) rfl ?_
        refine rm (st1 := [.retAddr 1, .ref 0]) rfl ⟨rfl, rfl, 1, rfl, rfl⟩ ?_
        obtain ⟨r5, g5, h⟩ := b1_some h
        refine rcV 152 0 [.retAddr 1] rfl rfl rfl (hSh.k 0 rfl _) (Nat.le_of_ble_eq_true rfl) rfl (e_Mo_isWord N (by omega) hSh (by decide) g5) ?_
        show RN xs L al (Ev xs L al d) 162 32 [(0, .ref 0)] [.int r5] (m, S) (some (.int r0)) (m, S)
        by_cases c6 : r5 = 0
        · rw [if_pos c6] at h
          refine rjf (a := (93, [(0, .ref 0)], [])) (b := (35, [(0, .ref 0)], [])) rfl rfl (fun q => q c6) ?_
          refine rsn 1 (t := (36, [(0, .ref 0)], [.ref 0])) rfl ?_
          refine rm (st1 := [.retAddr 2, .ref 0]) rfl ⟨rfl, rfl, 2, rfl, rfl⟩ ?_
          obtain ⟨r7, g7, h⟩ := b1_some h
          refine rcV 152 0 [.retAddr 2] rfl rfl rfl (hSh.k 0 rfl _) (Nat.le_of_ble_eq_true rfl) rfl (e_Mo_isWord N (by omega) hSh (by decide) g7) ?_
          show RN xs L al (Ev xs L al d) 162 41 [(0, .ref 0)] [.int r7] (m, S) (some (.int r0)) (m, S)
          by_cases c8 : r7 = 0
          · rw [if_pos c8] at h
            refine rjf (a := (93, [(0, .ref 0)], [])) (b := (44, [(0, .ref 0)], [])) rfl rfl (fun q => q c8) ?_
            refine rsn 1 (t := (45, [(0, .ref 0)], [.ref 0])) rfl ?_
            refine rm (st1 := [.retAddr 3, .ref 0]) rfl ⟨rfl, rfl, 3, rfl, rfl⟩ ?_
            obtain ⟨r9, g9, h⟩ := b1_some h
            refine rcV 152 0 [.retAddr 3] rfl rfl rfl (hSh.k 0 rfl _) (Nat.le_of_ble_eq_true rfl) rfl (e_Mo_isWord N (by omega) hSh (by decide) g9) ?_
            show RN xs L al (Ev xs L al d) 162 50 [(0, .ref 0)] [.int r9] (m, S) (some (.int r0)) (m, S)
            by_cases c10 : r9 = 0
            · rw [if_pos c10] at h
              refine rjf (a := (93, [(0, .ref 0)], [])) (b := (53, [(0, .ref 0)], [])) rfl rfl (fun q => q c10) ?_
              refine rsn 1 (t := (54, [(0, .ref 0)], [.ref 0])) rfl ?_
              refine rm (st1 := [.retAddr 4, .ref 0]) rfl ⟨rfl, rfl, 4, rfl, rfl⟩ ?_
              obtain ⟨r11, g11, h⟩ := b1_some h
              refine rcV 152 0 [.retAddr 4] rfl rfl rfl (hSh.k 0 rfl _) (Nat.le_of_ble_eq_true rfl) rfl (e_Mo_isWord N (by omega) hSh (by decide) g11) ?_
              show RN xs L al (Ev xs L al d) 162 59 [(0, .ref 0)] [.int r11] (m, S) (some (.int r0)) (m, S)
              by_cases c12 : r11 = 0
              · rw [if_pos c12] at h
                refine rjf (a := (93, [(0, .ref 0)], [])) (b := (62, [(0, .ref 0)], [])) rfl rfl (fun q => q c12) ?_
                refine rsn 1 (t := (63, [(0, .ref 0)], [.ref 0])) rfl ?_
                refine rm (st1 := [.retAddr 5, .ref 0]) rfl ⟨rfl, rfl, 5, rfl, rfl⟩ ?_
                obtain ⟨r13, g13, h⟩ := b1_some h
                refine rcV 152 0 [.retAddr 5] rfl rfl rfl (hSh.k 0 rfl _) (Nat.le_of_ble_eq_true rfl) rfl (e_Mo_isWord N (by omega) hSh (by decide) g13) ?_
                show RN xs L al (Ev xs L al d) 162 68 [(0, .ref 0)] [.int r13] (m, S) (some (.int r0)) (m, S)
                by_cases c14 : r13 = 0
                · rw [if_pos c14] at h
                  refine rjf (a := (93, [(0, .ref 0)], [])) (b := (71, [(0, .ref 0)], [])) rfl rfl (fun q => q c14) ?_
                  refine rsn 1 (t := (72, [(0, .ref 0)], [.ref 0])) rfl ?_
                  refine rm (st1 := [.retAddr 6, .ref 0]) rfl ⟨rfl, rfl, 6, rfl, rfl⟩ ?_
                  obtain ⟨r15, g15, h⟩ := b1_some h
                  refine rcV 152 0 [.retAddr 6] rfl rfl rfl (hSh.k 0 rfl _) (Nat.le_of_ble_eq_true rfl) rfl (e_Mo_isWord N (by omega) hSh (by decide) g15) ?_
                  show RN xs L al (Ev xs L al d) 162 77 [(0, .ref 0)] [.int r15] (m, S) (some (.int r0)) (m, S)
                  by_cases c16 : r15 = 0
                  · rw [if_pos c16] at h
                    refine rjf (a := (93, [(0, .ref 0)], [])) (b := (80, [(0, .ref 0)], [])) rfl rfl (fun q => q c16) ?_
                    refine rsn 1 (t := (81, [(0, .ref 0)], [.ref 0])) rfl ?_
                    refine rm (st1 := [.retAddr 7, .ref 0]) rfl ⟨rfl, rfl, 7, rfl, rfl⟩ ?_
                    obtain ⟨r17, g17, h⟩ := b1_some h
                    refine rcV 152 0 [.retAddr 7] rfl rfl rfl (hSh.k 0 rfl _) (Nat.le_of_ble_eq_true rfl) rfl (e_Mo_isWord N (by omega) hSh (by decide) g17) ?_
                    show RN xs L al (Ev xs L al d) 162 86 [(0, .ref 0)] [.int r17] (m, S) (some (.int r0)) (m, S)
                    by_cases c18 : r17 = 0
                    · rw [if_pos c18] at h
                      refine rjf (a := (93, [(0, .ref 0)], [])) (b := (89, [(0, .ref 0)], [])) rfl rfl (fun q => q c18) ?_
                      refine rsn 2 (t := (94, [(0, .ref 0)], [.int 1])) rfl ?_
                      cases h
                      exact rret rfl ⟨rfl, rfl, _, _, rfl, rfl, rfl, rfl⟩
                    · rw [if_neg c18] at h
                      refine rjt (a := (93, [(0, .ref 0)], [])) (b := (89, [(0, .ref 0)], [])) rfl rfl c18 ?_
                      refine rsn 1 (t := (94, [(0, .ref 0)], [.int 0])) rfl ?_
                      cases h
                      exact rret rfl ⟨rfl, rfl, _, _, rfl, rfl, rfl, rfl⟩
                  · rw [if_neg c16] at h
                    refine rjt (a := (93, [(0, .ref 0)], [])) (b := (80, [(0, .ref 0)], [])) rfl rfl c16 ?_
                    refine rsn 1 (t := (94, [(0, .ref 0)], [.int 0])) rfl ?_
                    cases h
                    exact rret rfl ⟨rfl, rfl, _, _, rfl, rfl, rfl, rfl⟩
                · rw [if_neg c14] at h
                  refine rjt (a := (93, [(0, .ref 0)], [])) (b := (71, [(0, .ref 0)], [])) rfl rfl c14 ?_
                  refine rsn 1 (t := (94, [(0, .ref 0)], [.int 0])) rfl ?_
                  cases h
                  exact rret rfl ⟨rfl, rfl, _, _, rfl, rfl, rfl, rfl⟩
              · rw [if_neg c12] at h
                refine rjt (a := (93, [(0, .ref 0)], [])) (b := (62, [(0, .ref 0)], [])) rfl rfl c12 ?_
                refine rsn 1 (t := (94, [(0, .ref 0)], [.int 0])) rfl ?_
                cases h
                exact rret rfl ⟨rfl, rfl, _, _, rfl, rfl, rfl, rfl⟩
            · rw [if_neg c10] at h
              refine rjt (a := (93, [(0, .ref 0)], [])) (b := (53, [(0, .ref 0)], [])) rfl rfl c10 ?_
              refine rsn 1 (t := (94, [(0, .ref 0)], [.int 0])) rfl ?_
              cases h
              exact rret rfl ⟨rfl, rfl, _, _, rfl, rfl, rfl, rfl⟩
          · rw [if_neg c8] at h
            refine rjt (a := (93, [(0, .ref 0)], [])) (b := (44, [(0, .ref 0)], [])) rfl rfl c8 ?_
            refine rsn 1 (t := (94, [(0, .ref 0)], [.int 0])) rfl ?_
            cases h
            exact rret rfl ⟨rfl, rfl, _, _, rfl, rfl, rfl, rfl⟩
        · rw [if_neg c6] at h
          refine rjt (a := (93, [(0, .ref 0)], [])) (b := (35, [(0, .ref 0)], [])) rfl rfl c6 ?_
          refine rsn 1 (t := (94, [(0, .ref 0)], [.int 0])) rfl ?_
          cases h
          exact rret rfl ⟨rfl, rfl, _, _, rfl, rfl, rfl, rfl⟩
      · rw [if_neg c4] at h
        refine rjt (a := (93, [(0, .ref 0)], [])) (b := (26, [(0, .ref 0)], [])) rfl rfl c4 ?_
        refine rsn 1 (t := (94, [(0, .ref 0)], [.int 0])) rfl ?_
        cases h
        exact rret rfl ⟨rfl, rfl, _, _, rfl, rfl, rfl, rfl⟩
  · rw [if_neg c1] at h
    refine rjt (a := (93, [(0, .ref 0)], [])) (b := (8, [(0, .ref 0)], [])) rfl rfl c1 ?_
    refine rsn 1 (t := (94, [(0, .ref 0)], [.int 0])) rfl ?_
    cases h
    exact rret rfl ⟨rfl, rfl, _, _, rfl, rfl, rfl, rfl⟩
def f_Mo_named_L2 (N : Nat) (x1 : Int64) (m : Mm) (k2 : Int32 → Option (Int32)) : Nat → Int32 → Option (Int32)
  | 0, _ => none
  | n2 + 1, x3 => (if ((mI m 0 6)) ≤ x3 then k2 x3 else ck (ix x3 3) ((if ((mYy m 2 x3.toNatClampNeg)) = x1 then some x3 else f_Mo_named_L2 N x1 m k2 n2 ((x3 + 1)))))
def f_Mo_named (N : Nat) (x1 : Int64) (m : Mm) : Option (Int32) := f_Mo_named_L2 N x1 m (fun (z4_3 : Int32) => some ((-1))) N 0
set_option maxRecDepth 20000 in
set_option maxHeartbeats 4000000 in
theorem e_Mo_named {xs : Nat → Int32} {L : Nat} {al : Bool} (N : Nat) {d : Nat} (hd : 1 ≤ d) {S : St} (hSh : ShR S) {x1 : Int64} {m : Mm} {r0 : Int32} (h : f_Mo_named N x1 m = some r0) : Ev xs L al d 163 [.ref 0, .long x1] (m, S) (some (.int r0)) (m, S) := by
  obtain ⟨d, rfl⟩ : ∃ e, d = e + 1 := ⟨d - 1, by omega⟩
  refine ev_of (by decide) (Nat.le_of_ble_eq_true rfl) ?_
  rw [f_Mo_named] at h
  show RN xs L al (Ev xs L al d) 163 0 [(0, .ref 0), (1, .long x1)] [] (m, S) (some (.int r0)) (m, S)
  refine rsn 2 (t := (2, [(3, .int 0), (0, .ref 0), (1, .long x1)], [])) rfl ?_
  have ex2 : ∀ (z4_3 : Int32), (some ((-1))) = some r0 → RN xs L al (Ev xs L al d) 163 29 [] [] (m, S) (some (.int r0)) (m, S) := by
    intro z4_3 h
    try dsimp only at h
    refine rsn 1 (t := (30, [], [.int ((-1))])) rfl ?_
    cases h
    exact rret rfl ⟨rfl, rfl, _, _, rfl, rfl, rfl, rfl⟩
  have lp2 : ∀ (n : Nat) (y5_3 : Int32), (f_Mo_named_L2 N x1 m (fun (z4_3 : Int32) => some ((-1))) n y5_3) = some r0 → RN xs L al (Ev xs L al d) 163 2 [(0, .ref 0), (1, .long x1), (3, .int y5_3)] [] (m, S) (some (.int r0)) (m, S) := by
    intro n
    induction n with
    | zero => intro y5_3 h; exact absurd h (by simp [f_Mo_named_L2])
    | succ n2 ih2 =>
      intro y5_3 h
      try dsimp only at h
      rw [f_Mo_named_L2] at h
      try dsimp only at h
      refine rsn 2 (t := (4, [(0, .ref 0), (1, .long x1), (3, .int y5_3)], [.ref 0, .int y5_3])) rfl ?_
      refine pgI rfl rfl rfl (hSh.k 0 rfl _) ?_
      show RN xs L al (Ev xs L al d) 163 7 [(0, .ref 0), (1, .long x1), (3, .int y5_3)] [.int ((mI m 0 6)), .int y5_3] (m, S) (some (.int r0)) (m, S)
      by_cases c6 : ((mI m 0 6)) ≤ y5_3
      · rw [if_pos c6] at h
        refine rjt (a := (29, [(0, .ref 0), (1, .long x1), (3, .int y5_3)], [])) (b := (10, [(0, .ref 0), (1, .long x1), (3, .int y5_3)], [])) rfl rfl c6 ?_
        exact rsub [] trivial trivial (ex2 y5_3 h)
      · rw [if_neg c6] at h
        refine rjf (a := (29, [(0, .ref 0), (1, .long x1), (3, .int y5_3)], [])) (b := (10, [(0, .ref 0), (1, .long x1), (3, .int y5_3)], [])) rfl rfl c6 ?_
        refine rsn 1 (t := (11, [(0, .ref 0), (1, .long x1), (3, .int y5_3)], [.ref 0])) rfl ?_
        refine rgR rfl rfl rfl (hSh.k 0 rfl _) (hSh.r 1 rfl _) ?_
        refine rsn 1 (t := (15, [(0, .ref 0), (1, .long x1), (3, .int y5_3)], [.int y5_3, .ref 2])) rfl ?_
        obtain ⟨c7, h⟩ := ck_some h
        refine pxJ rfl (hSh.k 2 rfl _) (hSh.l 1 rfl _) c7 ?_
        show RN xs L al (Ev xs L al d) 163 16 [(0, .ref 0), (1, .long x1), (3, .int y5_3)] [.long ((mYy m 2 y5_3.toNatClampNeg))] (m, S) (some (.int r0)) (m, S)
        refine rsn 2 (t := (18, [(0, .ref 0), (1, .long x1), (3, .int y5_3)], [.int ((lg_cmp ((mYy m 2 y5_3.toNatClampNeg)) x1))])) rfl ?_
        by_cases c8 : ((mYy m 2 y5_3.toNatClampNeg)) = x1
        · rw [if_pos c8] at h
          refine rjf (a := (23, [(0, .ref 0), (1, .long x1), (3, .int y5_3)], [])) (b := (21, [(0, .ref 0), (1, .long x1), (3, .int y5_3)], [])) rfl rfl (fun q => q (lgc_eq.mpr c8)) ?_
          refine rsn 1 (t := (22, [(0, .ref 0), (1, .long x1), (3, .int y5_3)], [.int y5_3])) rfl ?_
          cases h
          exact rret rfl ⟨rfl, rfl, _, _, rfl, rfl, rfl, rfl⟩
        · rw [if_neg c8] at h
          refine rjt (a := (23, [(0, .ref 0), (1, .long x1), (3, .int y5_3)], [])) (b := (21, [(0, .ref 0), (1, .long x1), (3, .int y5_3)], [])) rfl rfl (fun q => c8 (lgc_eq.mp q)) ?_
          refine rsn 2 (t := (2, [(3, .int ((y5_3 + 1))), (0, .ref 0), (1, .long x1)], [])) rfl ?_
          exact rsub [(0, .ref 0), (1, .long x1), (3, .int ((y5_3 + 1)))] ⟨rfl, ⟨rfl, ⟨rfl, trivial⟩⟩⟩ ⟨rfl, ⟨rfl, ⟨rfl, trivial⟩⟩⟩ (ih2 ((y5_3 + 1)) h)
  exact rsub [(0, .ref 0), (1, .long x1), (3, .int 0)] ⟨rfl, ⟨rfl, ⟨rfl, trivial⟩⟩⟩ ⟨rfl, ⟨rfl, ⟨rfl, trivial⟩⟩⟩ (lp2 N 0 h)
def f_Mo_isNumber (N : Nat) (x1 : Int32) (x2 : Int32) (m : Mm) : Option (Int32) := (if ((mI m 0 3)) = 2 then (if ((mJ m 0 5)) < x1.toInt64 then some 0 else (if x2.toInt64 < ((mJ m 0 5)) then some 0 else some 1)) else some 0)
set_option maxRecDepth 20000 in
set_option maxHeartbeats 4000000 in
theorem e_Mo_isNumber {xs : Nat → Int32} {L : Nat} {al : Bool} (N : Nat) {d : Nat} (hd : 1 ≤ d) {S : St} (hSh : ShR S) {x1 : Int32} {x2 : Int32} {m : Mm} {r0 : Int32} (h : f_Mo_isNumber N x1 x2 m = some r0) : Ev xs L al d 164 [.ref 0, .int x1, .int x2] (m, S) (some (.int r0)) (m, S) := by
  obtain ⟨d, rfl⟩ : ∃ e, d = e + 1 := ⟨d - 1, by omega⟩
  refine ev_of (by decide) (Nat.le_of_ble_eq_true rfl) ?_
  rw [f_Mo_isNumber] at h
  show RN xs L al (Ev xs L al d) 164 0 [(0, .ref 0), (1, .int x1), (2, .int x2)] [] (m, S) (some (.int r0)) (m, S)
  refine rsn 1 (t := (1, [(0, .ref 0), (1, .int x1), (2, .int x2)], [.ref 0])) rfl ?_
  refine pgI rfl rfl rfl (hSh.k 0 rfl _) ?_
  show RN xs L al (Ev xs L al d) 164 4 [(0, .ref 0), (1, .int x1), (2, .int x2)] [.int ((mI m 0 3))] (m, S) (some (.int r0)) (m, S)
  refine rsn 1 (t := (5, [(0, .ref 0), (1, .int x1), (2, .int x2)], [.int 2, .int ((mI m 0 3))])) rfl ?_
  by_cases c1 : ((mI m 0 3)) = 2
  · rw [if_pos c1] at h
    refine rjf (a := (32, [(0, .ref 0), (1, .int x1), (2, .int x2)], [])) (b := (8, [(0, .ref 0), (1, .int x1), (2, .int x2)], [])) rfl rfl (fun q => q c1) ?_
    refine rsn 1 (t := (9, [(0, .ref 0), (1, .int x1), (2, .int x2)], [.ref 0])) rfl ?_
    refine pgJ rfl rfl rfl (hSh.k 0 rfl _) ?_
    show RN xs L al (Ev xs L al d) 164 12 [(0, .ref 0), (1, .int x1), (2, .int x2)] [.long ((mJ m 0 5))] (m, S) (some (.int r0)) (m, S)
    refine rsn 3 (t := (15, [(0, .ref 0), (1, .int x1), (2, .int x2)], [.int ((lg_cmp ((mJ m 0 5)) x1.toInt64))])) rfl ?_
    by_cases c2 : ((mJ m 0 5)) < x1.toInt64
    · rw [if_pos c2] at h
      refine rjt (a := (32, [(0, .ref 0), (1, .int x1), (2, .int x2)], [])) (b := (18, [(0, .ref 0), (1, .int x1), (2, .int x2)], [])) rfl rfl (lgc_lt.mpr c2) ?_
      refine rsn 1 (t := (33, [(0, .ref 0), (1, .int x1), (2, .int x2)], [.int 0])) rfl ?_
      cases h
      exact rret rfl ⟨rfl, rfl, _, _, rfl, rfl, rfl, rfl⟩
    · rw [if_neg c2] at h
      refine rjf (a := (32, [(0, .ref 0), (1, .int x1), (2, .int x2)], [])) (b := (18, [(0, .ref 0), (1, .int x1), (2, .int x2)], [])) rfl rfl (fun q => c2 (lgc_lt.mp q)) ?_
      refine rsn 1 (t := (19, [(0, .ref 0), (1, .int x1), (2, .int x2)], [.ref 0])) rfl ?_
      refine pgJ rfl rfl rfl (hSh.k 0 rfl _) ?_
      show RN xs L al (Ev xs L al d) 164 22 [(0, .ref 0), (1, .int x1), (2, .int x2)] [.long ((mJ m 0 5))] (m, S) (some (.int r0)) (m, S)
      refine rsn 3 (t := (25, [(0, .ref 0), (1, .int x1), (2, .int x2)], [.int ((lg_cmp ((mJ m 0 5)) x2.toInt64))])) rfl ?_
      by_cases c3 : x2.toInt64 < ((mJ m 0 5))
      · rw [if_pos c3] at h
        refine rjt (a := (32, [(0, .ref 0), (1, .int x1), (2, .int x2)], [])) (b := (28, [(0, .ref 0), (1, .int x1), (2, .int x2)], [])) rfl rfl (lgc_gt.mpr c3) ?_
        refine rsn 1 (t := (33, [(0, .ref 0), (1, .int x1), (2, .int x2)], [.int 0])) rfl ?_
        cases h
        exact rret rfl ⟨rfl, rfl, _, _, rfl, rfl, rfl, rfl⟩
      · rw [if_neg c3] at h
        refine rjf (a := (32, [(0, .ref 0), (1, .int x1), (2, .int x2)], [])) (b := (28, [(0, .ref 0), (1, .int x1), (2, .int x2)], [])) rfl rfl (fun q => c3 (lgc_gt.mp q)) ?_
        refine rsn 2 (t := (33, [(0, .ref 0), (1, .int x1), (2, .int x2)], [.int 1])) rfl ?_
        cases h
        exact rret rfl ⟨rfl, rfl, _, _, rfl, rfl, rfl, rfl⟩
  · rw [if_neg c1] at h
    refine rjt (a := (32, [(0, .ref 0), (1, .int x1), (2, .int x2)], [])) (b := (8, [(0, .ref 0), (1, .int x1), (2, .int x2)], [])) rfl rfl c1 ?_
    refine rsn 1 (t := (33, [(0, .ref 0), (1, .int x1), (2, .int x2)], [.int 0])) rfl ?_
    cases h
    exact rret rfl ⟨rfl, rfl, _, _, rfl, rfl, rfl, rfl⟩
def f_Mo_heirLine_L64 (N : Nat) (k64 : Int32 → Mm → Option (Int32 × Mm)) : Nat → Int32 → Mm → Option (Int32 × Mm)
  | 0, _, _ => none
  | n64 + 1, x2, m => (if 3 ≤ x2 then k64 x2 m else b1 (f_Mo_isNumber N 0 20 m) fun r11 => (if r11 = 0 then some (0, m) else ck (ix ((((3 * ((mI m 0 6)))) + x2)) 9) (b3 (f_Mo_next N (vX m 4 (((((3 * ((mI m 0 6)))) + x2)).toNatClampNeg) (((mJ m 0 5)).toInt32))) fun m14 => f_Mo_heirLine_L64 N k64 n64 ((x2 + 1)) m14)))
def f_Mo_heirLine (N : Nat) (x1 : Int32) (m : Mm) : Option (Int32 × Mm) := (if ((mI m 0 6)) = 3 then some (0, m) else b3 (f_Mo_next N m) fun m2 => b1 (f_Mo_isName N m2) fun r3 => (if r3 = 0 then some (0, m2) else b1 (f_Mo_named N ((mJ m2 0 5)) m2) fun r5 => (if r5 = ((-1)) then ck (ix ((mI m2 0 6)) 3) (ck (ix ((mI m2 0 6)) 3) (b3 (f_Mo_next N (vX (vY m2 2 (((mI m2 0 6)).toNatClampNeg) ((mJ m2 0 5))) 3 (((mI m2 0 6)).toNatClampNeg) ((vp_nar .boolean x1)))) fun m9 => f_Mo_heirLine_L64 N (fun (z15_2 : Int32) (m15 : Mm) => b2 (f_Mo_closes N (vI m15 0 6 ((((mI m15 0 6)) + 1)))) fun r16 m16 => ck (r16 = 0 ∨ r16 = 1) (some (r16, m16))) N 0 m9)) else some (0, m2))))
set_option maxRecDepth 20000 in
set_option maxHeartbeats 4000000 in
theorem e_Mo_heirLine {xs : Nat → Int32} {L : Nat} {al : Bool} (N : Nat) {d : Nat} (hd : 8 ≤ d) {S : St} (hSh : ShR S) {x1 : Int32} {m : Mm} {r0 : Int32} {mf : Mm} (h : f_Mo_heirLine N x1 m = some (r0, mf)) : Ev xs L al d 161 [.ref 0, .int x1] (m, S) (some (.int r0)) (mf, S) := by
  obtain ⟨d, rfl⟩ : ∃ e, d = e + 1 := ⟨d - 1, by omega⟩
  refine ev_of (by decide) (Nat.le_of_ble_eq_true rfl) ?_
  rw [f_Mo_heirLine] at h
  show RN xs L al (Ev xs L al d) 161 0 [(0, .ref 0), (1, .int x1)] [] (m, S) (some (.int r0)) (mf, S)
  refine rsn 1 (t := (1, [(0, .ref 0), (1, .int x1)], [.ref 0])) rfl ?_
  refine pgI rfl rfl rfl (hSh.k 0 rfl _) ?_
  show RN xs L al (Ev xs L al d) 161 4 [(0, .ref 0), (1, .int x1)] [.int ((mI m 0 6))] (m, S) (some (.int r0)) (mf, S)
  refine rsn 1 (t := (5, [(0, .ref 0), (1, .int x1)], [.int 3, .int ((mI m 0 6))])) rfl ?_
  by_cases c1 : ((mI m 0 6)) = 3
  · rw [if_pos c1] at h
    refine rjf (a := (10, [(0, .ref 0), (1, .int x1)], [])) (b := (8, [(0, .ref 0), (1, .int x1)], [])) rfl rfl (fun q => q c1) ?_
    refine rsn 1 (t := (9, [(0, .ref 0), (1, .int x1)], [.int 0])) rfl ?_
    cases h
    exact rret rfl ⟨rfl, rfl, _, _, rfl, rfl, rfl, rfl⟩
  · rw [if_neg c1] at h
    refine rjt (a := (10, [(0, .ref 0), (1, .int x1)], [])) (b := (8, [(0, .ref 0), (1, .int x1)], [])) rfl rfl c1 ?_
    refine rsn 1 (t := (11, [(0, .ref 0), (1, .int x1)], [.ref 0])) rfl ?_
    obtain ⟨m2, g2, h⟩ := b3_some h
    refine rcV 148 0 [] rfl rfl rfl (hSh.k 0 rfl _) (Nat.le_of_ble_eq_true rfl) rfl (e_Mo_next N (by omega) hSh g2) ?_
    show RN xs L al (Ev xs L al d) 161 14 [(0, .ref 0), (1, .int x1)] [] (m2, S) (some (.int r0)) (mf, S)
    refine rsn 1 (t := (15, [(0, .ref 0), (1, .int x1)], [.ref 0])) rfl ?_
    obtain ⟨r3, g3, h⟩ := b1_some h
    refine rcV 162 0 [] rfl rfl rfl (hSh.k 0 rfl _) (Nat.le_of_ble_eq_true rfl) rfl (e_Mo_isName N (by omega) hSh g3) ?_
    show RN xs L al (Ev xs L al d) 161 18 [(0, .ref 0), (1, .int x1)] [.int r3] (m2, S) (some (.int r0)) (mf, S)
    by_cases c4 : r3 = 0
    · rw [if_pos c4] at h
      refine rjt (a := (33, [(0, .ref 0), (1, .int x1)], [])) (b := (21, [(0, .ref 0), (1, .int x1)], [])) rfl rfl c4 ?_
      refine rsn 1 (t := (34, [(0, .ref 0), (1, .int x1)], [.int 0])) rfl ?_
      cases h
      exact rret rfl ⟨rfl, rfl, _, _, rfl, rfl, rfl, rfl⟩
    · rw [if_neg c4] at h
      refine rjf (a := (33, [(0, .ref 0), (1, .int x1)], [])) (b := (21, [(0, .ref 0), (1, .int x1)], [])) rfl rfl c4 ?_
      refine rsn 2 (t := (23, [(0, .ref 0), (1, .int x1)], [.ref 0, .ref 0])) rfl ?_
      refine pgJ rfl rfl rfl (hSh.k 0 rfl _) ?_
      show RN xs L al (Ev xs L al d) 161 26 [(0, .ref 0), (1, .int x1)] [.long ((mJ m2 0 5)), .ref 0] (m2, S) (some (.int r0)) (mf, S)
      obtain ⟨r5, g5, h⟩ := b1_some h
      refine rcV 163 0 [.long ((mJ m2 0 5))] rfl rfl rfl (hSh.k 0 rfl _) (Nat.le_of_ble_eq_true rfl) rfl (e_Mo_named N (by omega) hSh g5) ?_
      show RN xs L al (Ev xs L al d) 161 29 [(0, .ref 0), (1, .int x1)] [.int r5] (m2, S) (some (.int r0)) (mf, S)
      refine rsn 1 (t := (30, [(0, .ref 0), (1, .int x1)], [.int ((-1)), .int r5])) rfl ?_
      by_cases c6 : r5 = ((-1))
      · rw [if_pos c6] at h
        refine rjt (a := (35, [(0, .ref 0), (1, .int x1)], [])) (b := (33, [(0, .ref 0), (1, .int x1)], [])) rfl rfl c6 ?_
        refine rsn 1 (t := (36, [(0, .ref 0), (1, .int x1)], [.ref 0])) rfl ?_
        refine rgR rfl rfl rfl (hSh.k 0 rfl _) (hSh.r 1 rfl _) ?_
        refine rsn 1 (t := (40, [(0, .ref 0), (1, .int x1)], [.ref 0, .ref 2])) rfl ?_
        refine pgI rfl rfl rfl (hSh.k 0 rfl _) ?_
        show RN xs L al (Ev xs L al d) 161 43 [(0, .ref 0), (1, .int x1)] [.int ((mI m2 0 6)), .ref 2] (m2, S) (some (.int r0)) (mf, S)
        refine rsn 1 (t := (44, [(0, .ref 0), (1, .int x1)], [.ref 0, .int ((mI m2 0 6)), .ref 2])) rfl ?_
        refine pgJ rfl rfl rfl (hSh.k 0 rfl _) ?_
        show RN xs L al (Ev xs L al d) 161 47 [(0, .ref 0), (1, .int x1)] [.long ((mJ m2 0 5)), .int ((mI m2 0 6)), .ref 2] (m2, S) (some (.int r0)) (mf, S)
        obtain ⟨c7, h⟩ := ck_some h
        refine psJ rfl (hSh.k 2 rfl _) (hSh.l 1 rfl _) c7 ?_
        refine rsn 1 (t := (49, [(0, .ref 0), (1, .int x1)], [.ref 0])) rfl ?_
        refine rgR rfl rfl rfl (hSh.k 0 rfl _) (hSh.r 2 rfl _) ?_
        refine rsn 1 (t := (53, [(0, .ref 0), (1, .int x1)], [.ref 0, .ref 3])) rfl ?_
        refine pgI rfl rfl rfl (hSh.k 0 rfl _) ?_
        show RN xs L al (Ev xs L al d) 161 56 [(0, .ref 0), (1, .int x1)] [.int ((mI m2 0 6)), .ref 3] ((vY m2 2 (((mI m2 0 6)).toNatClampNeg) ((mJ m2 0 5))), S) (some (.int r0)) (mf, S)
        refine rsn 1 (t := (57, [(0, .ref 0), (1, .int x1)], [.int x1, .int ((mI m2 0 6)), .ref 3])) rfl ?_
        obtain ⟨c8, h⟩ := ck_some h
        refine psZ rfl (hSh.k 3 rfl _) (hSh.l 2 rfl _) c8 ?_
        refine rsn 1 (t := (59, [(0, .ref 0), (1, .int x1)], [.ref 0])) rfl ?_
        obtain ⟨m9, g9, h⟩ := b3_some h
        refine rcV 148 0 [] rfl rfl rfl (hSh.k 0 rfl _) (Nat.le_of_ble_eq_true rfl) rfl (e_Mo_next N (by omega) hSh g9) ?_
        show RN xs L al (Ev xs L al d) 161 62 [(0, .ref 0), (1, .int x1)] [] (m9, S) (some (.int r0)) (mf, S)
        refine rsn 2 (t := (64, [(2, .int 0), (0, .ref 0), (1, .int x1)], [])) rfl ?_
        have ex64 : ∀ (z15_2 : Int32) (m15 : Mm), (b2 (f_Mo_closes N (vI m15 0 6 ((((mI m15 0 6)) + 1)))) fun r16 m16 => ck (r16 = 0 ∨ r16 = 1) (some (r16, m16))) = some (r0, mf) → RN xs L al (Ev xs L al d) 161 109 [(0, .ref 0)] [] (m15, S) (some (.int r0)) (mf, S) := by
          intro z15_2 m15 h
          try dsimp only at h
          refine rsn 2 (t := (111, [(0, .ref 0)], [.ref 0, .ref 0])) rfl ?_
          refine pgI rfl rfl rfl (hSh.k 0 rfl _) ?_
          show RN xs L al (Ev xs L al d) 161 114 [(0, .ref 0)] [.int ((mI m15 0 6)), .ref 0] (m15, S) (some (.int r0)) (mf, S)
          refine rsn 2 (t := (116, [(0, .ref 0)], [.int ((((mI m15 0 6)) + 1)), .ref 0])) rfl ?_
          refine ppI rfl rfl rfl rfl (hSh.k 0 rfl _) ?_
          refine rsn 1 (t := (120, [(0, .ref 0)], [.ref 0])) rfl ?_
          obtain ⟨r16, m16, g16, h⟩ := b2_some h
          refine rcV 165 0 [] rfl rfl rfl (hSh.k 0 rfl _) (Nat.le_of_ble_eq_true rfl) rfl (e_Mo_closes N (by omega) hSh g16) ?_
          show RN xs L al (Ev xs L al d) 161 123 [(0, .ref 0)] [.int r16] (m16, S) (some (.int r0)) (mf, S)
          obtain ⟨c17, h⟩ := ck_some h
          cases h
          exact rret rfl ⟨rfl, rfl, _, _, rfl, rfl, rfl, nz_of c17⟩
        have lp64 : ∀ (n : Nat) (y18_2 : Int32) (m18 : Mm), (f_Mo_heirLine_L64 N (fun (z15_2 : Int32) (m15 : Mm) => b2 (f_Mo_closes N (vI m15 0 6 ((((mI m15 0 6)) + 1)))) fun r16 m16 => ck (r16 = 0 ∨ r16 = 1) (some (r16, m16))) n y18_2 m18) = some (r0, mf) → RN xs L al (Ev xs L al d) 161 64 [(0, .ref 0), (2, .int y18_2)] [] (m18, S) (some (.int r0)) (mf, S) := by
          intro n
          induction n with
          | zero => intro y18_2 m18 h; exact absurd h (by simp [f_Mo_heirLine_L64])
          | succ n64 ih64 =>
            intro y18_2 m18 h
            try dsimp only at h
            rw [f_Mo_heirLine_L64] at h
            try dsimp only at h
            refine rsn 2 (t := (66, [(0, .ref 0), (2, .int y18_2)], [.int 3, .int y18_2])) rfl ?_
            by_cases c19 : 3 ≤ y18_2
            · rw [if_pos c19] at h
              refine rjt (a := (109, [(0, .ref 0), (2, .int y18_2)], [])) (b := (69, [(0, .ref 0), (2, .int y18_2)], [])) rfl rfl c19 ?_
              exact rsub [(0, .ref 0)] ⟨rfl, trivial⟩ ⟨rfl, trivial⟩ (ex64 y18_2 m18 h)
            · rw [if_neg c19] at h
              refine rjf (a := (109, [(0, .ref 0), (2, .int y18_2)], [])) (b := (69, [(0, .ref 0), (2, .int y18_2)], [])) rfl rfl c19 ?_
              refine rsn 3 (t := (73, [(0, .ref 0), (2, .int y18_2)], [.int 20, .int 0, .ref 0])) rfl ?_
              obtain ⟨r20, g20, h⟩ := b1_some h
              refine rcV 164 0 [.int 0, .int 20] rfl rfl rfl (hSh.k 0 rfl _) (Nat.le_of_ble_eq_true rfl) rfl (e_Mo_isNumber N (by omega) hSh g20) ?_
              show RN xs L al (Ev xs L al d) 161 76 [(0, .ref 0), (2, .int y18_2)] [.int r20] (m18, S) (some (.int r0)) (mf, S)
              by_cases c21 : r20 = 0
              · rw [if_pos c21] at h
                refine rjf (a := (81, [(0, .ref 0), (2, .int y18_2)], [])) (b := (79, [(0, .ref 0), (2, .int y18_2)], [])) rfl rfl (fun q => q c21) ?_
                refine rsn 1 (t := (80, [(0, .ref 0), (2, .int y18_2)], [.int 0])) rfl ?_
                cases h
                exact rret rfl ⟨rfl, rfl, _, _, rfl, rfl, rfl, rfl⟩
              · rw [if_neg c21] at h
                refine rjt (a := (81, [(0, .ref 0), (2, .int y18_2)], [])) (b := (79, [(0, .ref 0), (2, .int y18_2)], [])) rfl rfl c21 ?_
                refine rsn 1 (t := (82, [(0, .ref 0), (2, .int y18_2)], [.ref 0])) rfl ?_
                refine rgR rfl rfl rfl (hSh.k 0 rfl _) (hSh.r 3 rfl _) ?_
                refine rsn 2 (t := (87, [(0, .ref 0), (2, .int y18_2)], [.ref 0, .int 3, .ref 4])) rfl ?_
                refine pgI rfl rfl rfl (hSh.k 0 rfl _) ?_
                show RN xs L al (Ev xs L al d) 161 90 [(0, .ref 0), (2, .int y18_2)] [.int ((mI m18 0 6)), .int 3, .ref 4] (m18, S) (some (.int r0)) (mf, S)
                refine rsn 4 (t := (94, [(0, .ref 0), (2, .int y18_2)], [.ref 0, .int ((((3 * ((mI m18 0 6)))) + y18_2)), .ref 4])) rfl ?_
                refine pgJ rfl rfl rfl (hSh.k 0 rfl _) ?_
                show RN xs L al (Ev xs L al d) 161 97 [(0, .ref 0), (2, .int y18_2)] [.long ((mJ m18 0 5)), .int ((((3 * ((mI m18 0 6)))) + y18_2)), .ref 4] (m18, S) (some (.int r0)) (mf, S)
                refine rsn 1 (t := (98, [(0, .ref 0), (2, .int y18_2)], [.int (((mJ m18 0 5)).toInt32), .int ((((3 * ((mI m18 0 6)))) + y18_2)), .ref 4])) rfl ?_
                obtain ⟨c22, h⟩ := ck_some h
                refine psI rfl (hSh.k 4 rfl _) (hSh.l 3 rfl _) c22 ?_
                refine rsn 1 (t := (100, [(0, .ref 0), (2, .int y18_2)], [.ref 0])) rfl ?_
                obtain ⟨m23, g23, h⟩ := b3_some h
                refine rcV 148 0 [] rfl rfl rfl (hSh.k 0 rfl _) (Nat.le_of_ble_eq_true rfl) rfl (e_Mo_next N (by omega) hSh g23) ?_
                show RN xs L al (Ev xs L al d) 161 103 [(0, .ref 0), (2, .int y18_2)] [] (m23, S) (some (.int r0)) (mf, S)
                refine rsn 2 (t := (64, [(2, .int ((y18_2 + 1))), (0, .ref 0)], [])) rfl ?_
                exact rsub [(0, .ref 0), (2, .int ((y18_2 + 1)))] ⟨rfl, ⟨rfl, trivial⟩⟩ ⟨rfl, ⟨rfl, trivial⟩⟩ (ih64 ((y18_2 + 1)) m23 h)
        exact rsub [(0, .ref 0), (2, .int 0)] ⟨rfl, ⟨rfl, trivial⟩⟩ ⟨rfl, ⟨rfl, trivial⟩⟩ (lp64 N 0 m9 h)
      · rw [if_neg c6] at h
        refine rjf (a := (35, [(0, .ref 0), (1, .int x1)], [])) (b := (33, [(0, .ref 0), (1, .int x1)], [])) rfl rfl c6 ?_
        refine rsn 1 (t := (34, [(0, .ref 0), (1, .int x1)], [.int 0])) rfl ?_
        cases h
        exact rret rfl ⟨rfl, rfl, _, _, rfl, rfl, rfl, rfl⟩
def f_Mo_altHere (N : Nat) (m : Mm) : Option (Int32 × Mm) := ck (ix ((mI m 0 10)) 6) (b1 (f_Mo_isNumber N 1 ((12 - ((mI m 0 30)))) m) fun r2 => (if r2 = 0 then some (0, m) else ck (ix ((3 * ((((3 * ((mI m 0 10)))) + ((mX m 5 (((mI m 0 10)).toNatClampNeg))))))) 54) (b3 (f_Mo_next N (vI (vX m 6 (((3 * ((((3 * ((mI m 0 10)))) + ((mX m 5 (((mI m 0 10)).toNatClampNeg))))))).toNatClampNeg) (((mJ m 0 5)).toInt32)) 0 30 ((((mI m 0 30)) + (((mJ m 0 5)).toInt32))))) fun m5 => ck (ix ((((3 * ((((3 * ((mI m 0 10)))) + ((mX m 5 (((mI m 0 10)).toNatClampNeg))))))) + 2)) 54) (b1 (f_Mo_isWord N 5 (vX m5 6 (((((3 * ((((3 * ((mI m 0 10)))) + ((mX m 5 (((mI m 0 10)).toNatClampNeg))))))) + 2)).toNatClampNeg) ((-1)))) fun r7 => (jn (fun (m8 : Mm) => ck (ix ((mI m8 0 10)) 6) (ck (ix ((mI m8 0 10)) 6) (b3 (f_Mo_next N (vX m8 5 (((mI m8 0 10)).toNatClampNeg) ((((mX m8 5 (((mI m8 0 10)).toNatClampNeg))) + 1)))) fun m11 => some (1, m11)))) (fun j213 => if r7 = 0 then b1 (f_Mo_isWord N 3 (vX m5 6 (((((3 * ((((3 * ((mI m 0 10)))) + ((mX m 5 (((mI m 0 10)).toNatClampNeg))))))) + 2)).toNatClampNeg) ((-1)))) fun r13 => (if r13 = 0 then b1 (f_Mo_isWord N 4 (vX m5 6 (((((3 * ((((3 * ((mI m 0 10)))) + ((mX m 5 (((mI m 0 10)).toNatClampNeg))))))) + 2)).toNatClampNeg) ((-1)))) fun r15 => (if r15 = 0 then some (0, (vX m5 6 (((((3 * ((((3 * ((mI m 0 10)))) + ((mX m 5 (((mI m 0 10)).toNatClampNeg))))))) + 2)).toNatClampNeg) ((-1)))) else b3 (f_Mo_next N (vX m5 6 (((((3 * ((((3 * ((mI m 0 10)))) + ((mX m 5 (((mI m 0 10)).toNatClampNeg))))))) + 2)).toNatClampNeg) ((-1)))) fun m17 => b1 (f_Mo_isName N m17) fun r18 => (jn (fun (s19 : Int32) => (if s19 = ((-1)) then some (0, m17) else ck (ix s19 3) ((if ((mX m17 3 s19.toNatClampNeg)) = 0 then some (0, m17) else ck (ix ((((3 * ((((3 * ((mI m 0 10)))) + ((mX m 5 (((mI m 0 10)).toNatClampNeg))))))) + 1)) 54) (ck (ix ((((3 * ((((3 * ((mI m 0 10)))) + ((mX m 5 (((mI m 0 10)).toNatClampNeg))))))) + 2)) 54) (j213 ((vX (vX m17 6 (((((3 * ((((3 * ((mI m 0 10)))) + ((mX m 5 (((mI m 0 10)).toNatClampNeg))))))) + 1)).toNatClampNeg) 1) 6 (((((3 * ((((3 * ((mI m 0 10)))) + ((mX m 5 (((mI m 0 10)).toNatClampNeg))))))) + 2)).toNatClampNeg) s19)))))))) (fun j178 => if r18 = 0 then j178 ((-1)) else b1 (f_Mo_named N ((mJ m17 0 5)) m17) fun r26 => j178 r26))) else b3 (f_Mo_next N (vX m5 6 (((((3 * ((((3 * ((mI m 0 10)))) + ((mX m 5 (((mI m 0 10)).toNatClampNeg))))))) + 2)).toNatClampNeg) ((-1)))) fun m27 => b1 (f_Mo_isNumber N 0 2 m27) fun r28 => (if r28 = 0 then some (0, m27) else ck (ix ((((3 * ((((3 * ((mI m 0 10)))) + ((mX m 5 (((mI m 0 10)).toNatClampNeg))))))) + 1)) 54) (ck (ix ((((3 * ((((3 * ((mI m 0 10)))) + ((mX m 5 (((mI m 0 10)).toNatClampNeg))))))) + 2)) 54) (j213 ((vX (vX m27 6 (((((3 * ((((3 * ((mI m 0 10)))) + ((mX m 5 (((mI m 0 10)).toNatClampNeg))))))) + 1)).toNatClampNeg) 0) 6 (((((3 * ((((3 * ((mI m 0 10)))) + ((mX m 5 (((mI m 0 10)).toNatClampNeg))))))) + 2)).toNatClampNeg) (((mJ m27 0 5)).toInt32))))))) else ck (ix ((((3 * ((((3 * ((mI m 0 10)))) + ((mX m 5 (((mI m 0 10)).toNatClampNeg))))))) + 1)) 54) (j213 ((vX (vX m5 6 (((((3 * ((((3 * ((mI m 0 10)))) + ((mX m 5 (((mI m 0 10)).toNatClampNeg))))))) + 2)).toNatClampNeg) ((-1))) 6 (((((3 * ((((3 * ((mI m 0 10)))) + ((mX m 5 (((mI m 0 10)).toNatClampNeg))))))) + 1)).toNatClampNeg) 2)))))))))
set_option maxRecDepth 20000 in
set_option maxHeartbeats 4000000 in
theorem e_Mo_altHere {xs : Nat → Int32} {L : Nat} {al : Bool} (N : Nat) {d : Nat} (hd : 8 ≤ d) {S : St} (hSh : ShR S) {m : Mm} {r0 : Int32} {mf : Mm} (h : f_Mo_altHere N m = some (r0, mf)) : Ev xs L al d 168 [.ref 0] (m, S) (some (.int r0)) (mf, S) := by
  obtain ⟨d, rfl⟩ : ∃ e, d = e + 1 := ⟨d - 1, by omega⟩
  refine ev_of (by decide) (Nat.le_of_ble_eq_true rfl) ?_
  rw [f_Mo_altHere] at h
  show RN xs L al (Ev xs L al d) 168 0 [(0, .ref 0)] [] (m, S) (some (.int r0)) (mf, S)
  refine rsn 3 (t := (3, [(0, .ref 0)], [.ref 0, .int 3, .int 3])) rfl ?_
  refine pgI rfl rfl rfl (hSh.k 0 rfl _) ?_
  show RN xs L al (Ev xs L al d) 168 6 [(0, .ref 0)] [.int ((mI m 0 10)), .int 3, .int 3] (m, S) (some (.int r0)) (mf, S)
  refine rsn 2 (t := (8, [(0, .ref 0)], [.ref 0, .int ((3 * ((mI m 0 10)))), .int 3])) rfl ?_
  refine rgR rfl rfl rfl (hSh.k 0 rfl _) (hSh.r 4 rfl _) ?_
  refine rsn 1 (t := (12, [(0, .ref 0)], [.ref 0, .ref 5, .int ((3 * ((mI m 0 10)))), .int 3])) rfl ?_
  refine pgI rfl rfl rfl (hSh.k 0 rfl _) ?_
  show RN xs L al (Ev xs L al d) 168 15 [(0, .ref 0)] [.int ((mI m 0 10)), .ref 5, .int ((3 * ((mI m 0 10)))), .int 3] (m, S) (some (.int r0)) (mf, S)
  obtain ⟨c1, h⟩ := ck_some h
  refine pxI rfl (hSh.k 5 rfl _) (hSh.l 4 rfl _) c1 ?_
  show RN xs L al (Ev xs L al d) 168 16 [(0, .ref 0)] [.int ((mX m 5 (((mI m 0 10)).toNatClampNeg))), .int ((3 * ((mI m 0 10)))), .int 3] (m, S) (some (.int r0)) (mf, S)
  refine rsn 7 (t := (24, [(1, .int ((3 * ((((3 * ((mI m 0 10)))) + ((mX m 5 (((mI m 0 10)).toNatClampNeg)))))))), (0, .ref 0)], [.ref 0, .int 12, .int 1, .ref 0])) rfl ?_
  refine pgI rfl rfl rfl (hSh.k 0 rfl _) ?_
  show RN xs L al (Ev xs L al d) 168 27 [(1, .int ((3 * ((((3 * ((mI m 0 10)))) + ((mX m 5 (((mI m 0 10)).toNatClampNeg)))))))), (0, .ref 0)] [.int ((mI m 0 30)), .int 12, .int 1, .ref 0] (m, S) (some (.int r0)) (mf, S)
  refine rsn 1 (t := (28, [(1, .int ((3 * ((((3 * ((mI m 0 10)))) + ((mX m 5 (((mI m 0 10)).toNatClampNeg)))))))), (0, .ref 0)], [.int ((12 - ((mI m 0 30)))), .int 1, .ref 0])) rfl ?_
  obtain ⟨r2, g2, h⟩ := b1_some h
  refine rcV 164 0 [.int 1, .int ((12 - ((mI m 0 30))))] rfl rfl rfl (hSh.k 0 rfl _) (Nat.le_of_ble_eq_true rfl) rfl (e_Mo_isNumber N (by omega) hSh g2) ?_
  show RN xs L al (Ev xs L al d) 168 31 [(1, .int ((3 * ((((3 * ((mI m 0 10)))) + ((mX m 5 (((mI m 0 10)).toNatClampNeg)))))))), (0, .ref 0)] [.int r2] (m, S) (some (.int r0)) (mf, S)
  by_cases c3 : r2 = 0
  · rw [if_pos c3] at h
    refine rjf (a := (36, [(1, .int ((3 * ((((3 * ((mI m 0 10)))) + ((mX m 5 (((mI m 0 10)).toNatClampNeg)))))))), (0, .ref 0)], [])) (b := (34, [(1, .int ((3 * ((((3 * ((mI m 0 10)))) + ((mX m 5 (((mI m 0 10)).toNatClampNeg)))))))), (0, .ref 0)], [])) rfl rfl (fun q => q c3) ?_
    refine rsn 1 (t := (35, [(1, .int ((3 * ((((3 * ((mI m 0 10)))) + ((mX m 5 (((mI m 0 10)).toNatClampNeg)))))))), (0, .ref 0)], [.int 0])) rfl ?_
    cases h
    exact rret rfl ⟨rfl, rfl, _, _, rfl, rfl, rfl, rfl⟩
  · rw [if_neg c3] at h
    refine rjt (a := (36, [(1, .int ((3 * ((((3 * ((mI m 0 10)))) + ((mX m 5 (((mI m 0 10)).toNatClampNeg)))))))), (0, .ref 0)], [])) (b := (34, [(1, .int ((3 * ((((3 * ((mI m 0 10)))) + ((mX m 5 (((mI m 0 10)).toNatClampNeg)))))))), (0, .ref 0)], [])) rfl rfl c3 ?_
    refine rsn 1 (t := (37, [(1, .int ((3 * ((((3 * ((mI m 0 10)))) + ((mX m 5 (((mI m 0 10)).toNatClampNeg)))))))), (0, .ref 0)], [.ref 0])) rfl ?_
    refine rgR rfl rfl rfl (hSh.k 0 rfl _) (hSh.r 5 rfl _) ?_
    refine rsn 2 (t := (42, [(1, .int ((3 * ((((3 * ((mI m 0 10)))) + ((mX m 5 (((mI m 0 10)).toNatClampNeg)))))))), (0, .ref 0)], [.ref 0, .int ((3 * ((((3 * ((mI m 0 10)))) + ((mX m 5 (((mI m 0 10)).toNatClampNeg))))))), .ref 6])) rfl ?_
    refine pgJ rfl rfl rfl (hSh.k 0 rfl _) ?_
    show RN xs L al (Ev xs L al d) 168 45 [(1, .int ((3 * ((((3 * ((mI m 0 10)))) + ((mX m 5 (((mI m 0 10)).toNatClampNeg)))))))), (0, .ref 0)] [.long ((mJ m 0 5)), .int ((3 * ((((3 * ((mI m 0 10)))) + ((mX m 5 (((mI m 0 10)).toNatClampNeg))))))), .ref 6] (m, S) (some (.int r0)) (mf, S)
    refine rsn 1 (t := (46, [(1, .int ((3 * ((((3 * ((mI m 0 10)))) + ((mX m 5 (((mI m 0 10)).toNatClampNeg)))))))), (0, .ref 0)], [.int (((mJ m 0 5)).toInt32), .int ((3 * ((((3 * ((mI m 0 10)))) + ((mX m 5 (((mI m 0 10)).toNatClampNeg))))))), .ref 6])) rfl ?_
    obtain ⟨c4, h⟩ := ck_some h
    refine psI rfl (hSh.k 6 rfl _) (hSh.l 5 rfl _) c4 ?_
    refine rsn 2 (t := (49, [(1, .int ((3 * ((((3 * ((mI m 0 10)))) + ((mX m 5 (((mI m 0 10)).toNatClampNeg)))))))), (0, .ref 0)], [.ref 0, .ref 0])) rfl ?_
    refine pgI rfl rfl rfl (hSh.k 0 rfl _) ?_
    show RN xs L al (Ev xs L al d) 168 52 [(1, .int ((3 * ((((3 * ((mI m 0 10)))) + ((mX m 5 (((mI m 0 10)).toNatClampNeg)))))))), (0, .ref 0)] [.int ((mI m 0 30)), .ref 0] ((vX m 6 (((3 * ((((3 * ((mI m 0 10)))) + ((mX m 5 (((mI m 0 10)).toNatClampNeg))))))).toNatClampNeg) (((mJ m 0 5)).toInt32)), S) (some (.int r0)) (mf, S)
    refine rsn 1 (t := (53, [(1, .int ((3 * ((((3 * ((mI m 0 10)))) + ((mX m 5 (((mI m 0 10)).toNatClampNeg)))))))), (0, .ref 0)], [.ref 0, .int ((mI m 0 30)), .ref 0])) rfl ?_
    refine pgJ rfl rfl rfl (hSh.k 0 rfl _) ?_
    show RN xs L al (Ev xs L al d) 168 56 [(1, .int ((3 * ((((3 * ((mI m 0 10)))) + ((mX m 5 (((mI m 0 10)).toNatClampNeg)))))))), (0, .ref 0)] [.long ((mJ m 0 5)), .int ((mI m 0 30)), .ref 0] ((vX m 6 (((3 * ((((3 * ((mI m 0 10)))) + ((mX m 5 (((mI m 0 10)).toNatClampNeg))))))).toNatClampNeg) (((mJ m 0 5)).toInt32)), S) (some (.int r0)) (mf, S)
    refine rsn 2 (t := (58, [(1, .int ((3 * ((((3 * ((mI m 0 10)))) + ((mX m 5 (((mI m 0 10)).toNatClampNeg)))))))), (0, .ref 0)], [.int ((((mI m 0 30)) + (((mJ m 0 5)).toInt32))), .ref 0])) rfl ?_
    refine ppI rfl rfl rfl rfl (hSh.k 0 rfl _) ?_
    refine rsn 1 (t := (62, [(1, .int ((3 * ((((3 * ((mI m 0 10)))) + ((mX m 5 (((mI m 0 10)).toNatClampNeg)))))))), (0, .ref 0)], [.ref 0])) rfl ?_
    obtain ⟨m5, g5, h⟩ := b3_some h
    refine rcV 148 0 [] rfl rfl rfl (hSh.k 0 rfl _) (Nat.le_of_ble_eq_true rfl) rfl (e_Mo_next N (by omega) hSh g5) ?_
    show RN xs L al (Ev xs L al d) 168 65 [(1, .int ((3 * ((((3 * ((mI m 0 10)))) + ((mX m 5 (((mI m 0 10)).toNatClampNeg)))))))), (0, .ref 0)] [] (m5, S) (some (.int r0)) (mf, S)
    refine rsn 1 (t := (66, [(1, .int ((3 * ((((3 * ((mI m 0 10)))) + ((mX m 5 (((mI m 0 10)).toNatClampNeg)))))))), (0, .ref 0)], [.ref 0])) rfl ?_
    refine rgR rfl rfl rfl (hSh.k 0 rfl _) (hSh.r 5 rfl _) ?_
    refine rsn 4 (t := (73, [(1, .int ((3 * ((((3 * ((mI m 0 10)))) + ((mX m 5 (((mI m 0 10)).toNatClampNeg)))))))), (0, .ref 0)], [.int ((-1)), .int ((((3 * ((((3 * ((mI m 0 10)))) + ((mX m 5 (((mI m 0 10)).toNatClampNeg))))))) + 2)), .ref 6])) rfl ?_
    obtain ⟨c6, h⟩ := ck_some h
    refine psI rfl (hSh.k 6 rfl _) (hSh.l 5 rfl _) c6 ?_
    refine rsn 1 (t := (75, [(1, .int ((3 * ((((3 * ((mI m 0 10)))) + ((mX m 5 (((mI m 0 10)).toNatClampNeg)))))))), (0, .ref 0)], [.ref 0])) rfl ?_
    refine rm (st1 := [.retAddr 5, .ref 0]) rfl ⟨rfl, rfl, 5, rfl, rfl⟩ ?_
    obtain ⟨r7, g7, h⟩ := b1_some h
    refine rcV 152 0 [.retAddr 5] rfl rfl rfl (hSh.k 0 rfl _) (Nat.le_of_ble_eq_true rfl) rfl (e_Mo_isWord N (by omega) hSh (by decide) g7) ?_
    show RN xs L al (Ev xs L al d) 168 80 [(1, .int ((3 * ((((3 * ((mI m 0 10)))) + ((mX m 5 (((mI m 0 10)).toNatClampNeg)))))))), (0, .ref 0)] [.int r7] ((vX m5 6 (((((3 * ((((3 * ((mI m 0 10)))) + ((mX m 5 (((mI m 0 10)).toNatClampNeg))))))) + 2)).toNatClampNeg) ((-1))), S) (some (.int r0)) (mf, S)
    have jp213 : ∀ (m8 : Mm), (ck (ix ((mI m8 0 10)) 6) (ck (ix ((mI m8 0 10)) 6) (b3 (f_Mo_next N (vX m8 5 (((mI m8 0 10)).toNatClampNeg) ((((mX m8 5 (((mI m8 0 10)).toNatClampNeg))) + 1)))) fun m11 => some (1, m11)))) = some (r0, mf) → RN xs L al (Ev xs L al d) 168 213 [(0, .ref 0)] [] (m8, S) (some (.int r0)) (mf, S) := by
      intro m8 h
      try dsimp only at h
      refine rsn 1 (t := (214, [(0, .ref 0)], [.ref 0])) rfl ?_
      refine rgR rfl rfl rfl (hSh.k 0 rfl _) (hSh.r 4 rfl _) ?_
      refine rsn 1 (t := (218, [(0, .ref 0)], [.ref 0, .ref 5])) rfl ?_
      refine pgI rfl rfl rfl (hSh.k 0 rfl _) ?_
      show RN xs L al (Ev xs L al d) 168 221 [(0, .ref 0)] [.int ((mI m8 0 10)), .ref 5] (m8, S) (some (.int r0)) (mf, S)
      refine rsn 1 (t := (222, [(0, .ref 0)], [.int ((mI m8 0 10)), .ref 5, .int ((mI m8 0 10)), .ref 5])) rfl ?_
      obtain ⟨c9, h⟩ := ck_some h
      refine pxI rfl (hSh.k 5 rfl _) (hSh.l 4 rfl _) c9 ?_
      show RN xs L al (Ev xs L al d) 168 223 [(0, .ref 0)] [.int ((mX m8 5 (((mI m8 0 10)).toNatClampNeg))), .int ((mI m8 0 10)), .ref 5] (m8, S) (some (.int r0)) (mf, S)
      refine rsn 2 (t := (225, [(0, .ref 0)], [.int ((((mX m8 5 (((mI m8 0 10)).toNatClampNeg))) + 1)), .int ((mI m8 0 10)), .ref 5])) rfl ?_
      obtain ⟨c10, h⟩ := ck_some h
      refine psI rfl (hSh.k 5 rfl _) (hSh.l 4 rfl _) c10 ?_
      refine rsn 1 (t := (227, [(0, .ref 0)], [.ref 0])) rfl ?_
      obtain ⟨m11, g11, h⟩ := b3_some h
      refine rcV 148 0 [] rfl rfl rfl (hSh.k 0 rfl _) (Nat.le_of_ble_eq_true rfl) rfl (e_Mo_next N (by omega) hSh g11) ?_
      show RN xs L al (Ev xs L al d) 168 230 [(0, .ref 0)] [] (m11, S) (some (.int r0)) (mf, S)
      refine rsn 1 (t := (231, [(0, .ref 0)], [.int 1])) rfl ?_
      cases h
      exact rret rfl ⟨rfl, rfl, _, _, rfl, rfl, rfl, rfl⟩
    rw [jn] at h
    try dsimp only at h
    by_cases c12 : r7 = 0
    · rw [if_pos c12] at h
      refine rjt (a := (95, [(1, .int ((3 * ((((3 * ((mI m 0 10)))) + ((mX m 5 (((mI m 0 10)).toNatClampNeg)))))))), (0, .ref 0)], [])) (b := (83, [(1, .int ((3 * ((((3 * ((mI m 0 10)))) + ((mX m 5 (((mI m 0 10)).toNatClampNeg)))))))), (0, .ref 0)], [])) rfl rfl c12 ?_
      refine rsn 1 (t := (96, [(1, .int ((3 * ((((3 * ((mI m 0 10)))) + ((mX m 5 (((mI m 0 10)).toNatClampNeg)))))))), (0, .ref 0)], [.ref 0])) rfl ?_
      refine rm (st1 := [.retAddr 3, .ref 0]) rfl ⟨rfl, rfl, 3, rfl, rfl⟩ ?_
      obtain ⟨r13, g13, h⟩ := b1_some h
      refine rcV 152 0 [.retAddr 3] rfl rfl rfl (hSh.k 0 rfl _) (Nat.le_of_ble_eq_true rfl) rfl (e_Mo_isWord N (by omega) hSh (by decide) g13) ?_
      show RN xs L al (Ev xs L al d) 168 101 [(1, .int ((3 * ((((3 * ((mI m 0 10)))) + ((mX m 5 (((mI m 0 10)).toNatClampNeg)))))))), (0, .ref 0)] [.int r13] ((vX m5 6 (((((3 * ((((3 * ((mI m 0 10)))) + ((mX m 5 (((mI m 0 10)).toNatClampNeg))))))) + 2)).toNatClampNeg) ((-1))), S) (some (.int r0)) (mf, S)
      by_cases c14 : r13 = 0
      · rw [if_pos c14] at h
        refine rjt (a := (144, [(1, .int ((3 * ((((3 * ((mI m 0 10)))) + ((mX m 5 (((mI m 0 10)).toNatClampNeg)))))))), (0, .ref 0)], [])) (b := (104, [(1, .int ((3 * ((((3 * ((mI m 0 10)))) + ((mX m 5 (((mI m 0 10)).toNatClampNeg)))))))), (0, .ref 0)], [])) rfl rfl c14 ?_
        refine rsn 1 (t := (145, [(1, .int ((3 * ((((3 * ((mI m 0 10)))) + ((mX m 5 (((mI m 0 10)).toNatClampNeg)))))))), (0, .ref 0)], [.ref 0])) rfl ?_
        refine rm (st1 := [.retAddr 4, .ref 0]) rfl ⟨rfl, rfl, 4, rfl, rfl⟩ ?_
        obtain ⟨r15, g15, h⟩ := b1_some h
        refine rcV 152 0 [.retAddr 4] rfl rfl rfl (hSh.k 0 rfl _) (Nat.le_of_ble_eq_true rfl) rfl (e_Mo_isWord N (by omega) hSh (by decide) g15) ?_
        show RN xs L al (Ev xs L al d) 168 150 [(1, .int ((3 * ((((3 * ((mI m 0 10)))) + ((mX m 5 (((mI m 0 10)).toNatClampNeg)))))))), (0, .ref 0)] [.int r15] ((vX m5 6 (((((3 * ((((3 * ((mI m 0 10)))) + ((mX m 5 (((mI m 0 10)).toNatClampNeg))))))) + 2)).toNatClampNeg) ((-1))), S) (some (.int r0)) (mf, S)
        by_cases c16 : r15 = 0
        · rw [if_pos c16] at h
          refine rjf (a := (155, [(1, .int ((3 * ((((3 * ((mI m 0 10)))) + ((mX m 5 (((mI m 0 10)).toNatClampNeg)))))))), (0, .ref 0)], [])) (b := (153, [(1, .int ((3 * ((((3 * ((mI m 0 10)))) + ((mX m 5 (((mI m 0 10)).toNatClampNeg)))))))), (0, .ref 0)], [])) rfl rfl (fun q => q c16) ?_
          refine rsn 1 (t := (154, [(1, .int ((3 * ((((3 * ((mI m 0 10)))) + ((mX m 5 (((mI m 0 10)).toNatClampNeg)))))))), (0, .ref 0)], [.int 0])) rfl ?_
          cases h
          exact rret rfl ⟨rfl, rfl, _, _, rfl, rfl, rfl, rfl⟩
        · rw [if_neg c16] at h
          refine rjt (a := (155, [(1, .int ((3 * ((((3 * ((mI m 0 10)))) + ((mX m 5 (((mI m 0 10)).toNatClampNeg)))))))), (0, .ref 0)], [])) (b := (153, [(1, .int ((3 * ((((3 * ((mI m 0 10)))) + ((mX m 5 (((mI m 0 10)).toNatClampNeg)))))))), (0, .ref 0)], [])) rfl rfl c16 ?_
          refine rsn 1 (t := (156, [(1, .int ((3 * ((((3 * ((mI m 0 10)))) + ((mX m 5 (((mI m 0 10)).toNatClampNeg)))))))), (0, .ref 0)], [.ref 0])) rfl ?_
          obtain ⟨m17, g17, h⟩ := b3_some h
          refine rcV 148 0 [] rfl rfl rfl (hSh.k 0 rfl _) (Nat.le_of_ble_eq_true rfl) rfl (e_Mo_next N (by omega) hSh g17) ?_
          show RN xs L al (Ev xs L al d) 168 159 [(1, .int ((3 * ((((3 * ((mI m 0 10)))) + ((mX m 5 (((mI m 0 10)).toNatClampNeg)))))))), (0, .ref 0)] [] (m17, S) (some (.int r0)) (mf, S)
          refine rsn 1 (t := (160, [(1, .int ((3 * ((((3 * ((mI m 0 10)))) + ((mX m 5 (((mI m 0 10)).toNatClampNeg)))))))), (0, .ref 0)], [.ref 0])) rfl ?_
          obtain ⟨r18, g18, h⟩ := b1_some h
          refine rcV 162 0 [] rfl rfl rfl (hSh.k 0 rfl _) (Nat.le_of_ble_eq_true rfl) rfl (e_Mo_isName N (by omega) hSh g18) ?_
          show RN xs L al (Ev xs L al d) 168 163 [(1, .int ((3 * ((((3 * ((mI m 0 10)))) + ((mX m 5 (((mI m 0 10)).toNatClampNeg)))))))), (0, .ref 0)] [.int r18] (m17, S) (some (.int r0)) (mf, S)
          have jp178 : ∀ (s19 : Int32), (((fun j213 => (if s19 = ((-1)) then some (0, m17) else ck (ix s19 3) ((if ((mX m17 3 s19.toNatClampNeg)) = 0 then some (0, m17) else ck (ix ((((3 * ((((3 * ((mI m 0 10)))) + ((mX m 5 (((mI m 0 10)).toNatClampNeg))))))) + 1)) 54) (ck (ix ((((3 * ((((3 * ((mI m 0 10)))) + ((mX m 5 (((mI m 0 10)).toNatClampNeg))))))) + 2)) 54) (j213 ((vX (vX m17 6 (((((3 * ((((3 * ((mI m 0 10)))) + ((mX m 5 (((mI m 0 10)).toNatClampNeg))))))) + 1)).toNatClampNeg) 1) 6 (((((3 * ((((3 * ((mI m 0 10)))) + ((mX m 5 (((mI m 0 10)).toNatClampNeg))))))) + 2)).toNatClampNeg) s19)))))))) (fun (m8 : Mm) => ck (ix ((mI m8 0 10)) 6) (ck (ix ((mI m8 0 10)) 6) (b3 (f_Mo_next N (vX m8 5 (((mI m8 0 10)).toNatClampNeg) ((((mX m8 5 (((mI m8 0 10)).toNatClampNeg))) + 1)))) fun m11 => some (1, m11)))))) = some (r0, mf) → RN xs L al (Ev xs L al d) 168 178 [(0, .ref 0), (1, .int ((3 * ((((3 * ((mI m 0 10)))) + ((mX m 5 (((mI m 0 10)).toNatClampNeg))))))))] [.int s19] (m17, S) (some (.int r0)) (mf, S) := by
            intro s19 h
            try dsimp only at h
            refine rsn 3 (t := (181, [(2, .int s19), (0, .ref 0), (1, .int ((3 * ((((3 * ((mI m 0 10)))) + ((mX m 5 (((mI m 0 10)).toNatClampNeg))))))))], [.int ((-1)), .int s19])) rfl ?_
            by_cases c20 : s19 = ((-1))
            · rw [if_pos c20] at h
              refine rjt (a := (193, [(2, .int s19), (0, .ref 0), (1, .int ((3 * ((((3 * ((mI m 0 10)))) + ((mX m 5 (((mI m 0 10)).toNatClampNeg))))))))], [])) (b := (184, [(2, .int s19), (0, .ref 0), (1, .int ((3 * ((((3 * ((mI m 0 10)))) + ((mX m 5 (((mI m 0 10)).toNatClampNeg))))))))], [])) rfl rfl c20 ?_
              refine rsn 1 (t := (194, [(2, .int s19), (0, .ref 0), (1, .int ((3 * ((((3 * ((mI m 0 10)))) + ((mX m 5 (((mI m 0 10)).toNatClampNeg))))))))], [.int 0])) rfl ?_
              cases h
              exact rret rfl ⟨rfl, rfl, _, _, rfl, rfl, rfl, rfl⟩
            · rw [if_neg c20] at h
              refine rjf (a := (193, [(2, .int s19), (0, .ref 0), (1, .int ((3 * ((((3 * ((mI m 0 10)))) + ((mX m 5 (((mI m 0 10)).toNatClampNeg))))))))], [])) (b := (184, [(2, .int s19), (0, .ref 0), (1, .int ((3 * ((((3 * ((mI m 0 10)))) + ((mX m 5 (((mI m 0 10)).toNatClampNeg))))))))], [])) rfl rfl c20 ?_
              refine rsn 1 (t := (185, [(2, .int s19), (0, .ref 0), (1, .int ((3 * ((((3 * ((mI m 0 10)))) + ((mX m 5 (((mI m 0 10)).toNatClampNeg))))))))], [.ref 0])) rfl ?_
              refine rgR rfl rfl rfl (hSh.k 0 rfl _) (hSh.r 2 rfl _) ?_
              refine rsn 1 (t := (189, [(2, .int s19), (0, .ref 0), (1, .int ((3 * ((((3 * ((mI m 0 10)))) + ((mX m 5 (((mI m 0 10)).toNatClampNeg))))))))], [.int s19, .ref 3])) rfl ?_
              obtain ⟨c21, h⟩ := ck_some h
              refine pxB rfl (Or.inr (hSh.k 3 rfl _)) (hSh.l 2 rfl _) c21 ?_
              show RN xs L al (Ev xs L al d) 168 190 [(2, .int s19), (0, .ref 0), (1, .int ((3 * ((((3 * ((mI m 0 10)))) + ((mX m 5 (((mI m 0 10)).toNatClampNeg))))))))] [.int ((mX m17 3 s19.toNatClampNeg))] (m17, S) (some (.int r0)) (mf, S)
              by_cases c22 : ((mX m17 3 s19.toNatClampNeg)) = 0
              · rw [if_pos c22] at h
                refine rjf (a := (195, [(2, .int s19), (0, .ref 0), (1, .int ((3 * ((((3 * ((mI m 0 10)))) + ((mX m 5 (((mI m 0 10)).toNatClampNeg))))))))], [])) (b := (193, [(2, .int s19), (0, .ref 0), (1, .int ((3 * ((((3 * ((mI m 0 10)))) + ((mX m 5 (((mI m 0 10)).toNatClampNeg))))))))], [])) rfl rfl (fun q => q c22) ?_
                refine rsn 1 (t := (194, [(2, .int s19), (0, .ref 0), (1, .int ((3 * ((((3 * ((mI m 0 10)))) + ((mX m 5 (((mI m 0 10)).toNatClampNeg))))))))], [.int 0])) rfl ?_
                cases h
                exact rret rfl ⟨rfl, rfl, _, _, rfl, rfl, rfl, rfl⟩
              · rw [if_neg c22] at h
                refine rjt (a := (195, [(2, .int s19), (0, .ref 0), (1, .int ((3 * ((((3 * ((mI m 0 10)))) + ((mX m 5 (((mI m 0 10)).toNatClampNeg))))))))], [])) (b := (193, [(2, .int s19), (0, .ref 0), (1, .int ((3 * ((((3 * ((mI m 0 10)))) + ((mX m 5 (((mI m 0 10)).toNatClampNeg))))))))], [])) rfl rfl c22 ?_
                refine rsn 1 (t := (196, [(2, .int s19), (0, .ref 0), (1, .int ((3 * ((((3 * ((mI m 0 10)))) + ((mX m 5 (((mI m 0 10)).toNatClampNeg))))))))], [.ref 0])) rfl ?_
                refine rgR rfl rfl rfl (hSh.k 0 rfl _) (hSh.r 5 rfl _) ?_
                refine rsn 4 (t := (203, [(2, .int s19), (0, .ref 0), (1, .int ((3 * ((((3 * ((mI m 0 10)))) + ((mX m 5 (((mI m 0 10)).toNatClampNeg))))))))], [.int 1, .int ((((3 * ((((3 * ((mI m 0 10)))) + ((mX m 5 (((mI m 0 10)).toNatClampNeg))))))) + 1)), .ref 6])) rfl ?_
                obtain ⟨c23, h⟩ := ck_some h
                refine psI rfl (hSh.k 6 rfl _) (hSh.l 5 rfl _) c23 ?_
                refine rsn 1 (t := (205, [(2, .int s19), (0, .ref 0), (1, .int ((3 * ((((3 * ((mI m 0 10)))) + ((mX m 5 (((mI m 0 10)).toNatClampNeg))))))))], [.ref 0])) rfl ?_
                refine rgR rfl rfl rfl (hSh.k 0 rfl _) (hSh.r 5 rfl _) ?_
                refine rsn 4 (t := (212, [(2, .int s19), (0, .ref 0), (1, .int ((3 * ((((3 * ((mI m 0 10)))) + ((mX m 5 (((mI m 0 10)).toNatClampNeg))))))))], [.int s19, .int ((((3 * ((((3 * ((mI m 0 10)))) + ((mX m 5 (((mI m 0 10)).toNatClampNeg))))))) + 2)), .ref 6])) rfl ?_
                obtain ⟨c24, h⟩ := ck_some h
                refine psI rfl (hSh.k 6 rfl _) (hSh.l 5 rfl _) c24 ?_
                exact rsub [(0, .ref 0)] ⟨rfl, trivial⟩ ⟨rfl, trivial⟩ (jp213 ((vX (vX m17 6 (((((3 * ((((3 * ((mI m 0 10)))) + ((mX m 5 (((mI m 0 10)).toNatClampNeg))))))) + 1)).toNatClampNeg) 1) 6 (((((3 * ((((3 * ((mI m 0 10)))) + ((mX m 5 (((mI m 0 10)).toNatClampNeg))))))) + 2)).toNatClampNeg) s19)) h)
          rw [jn] at h
          try dsimp only at h
          by_cases c25 : r18 = 0
          · rw [if_pos c25] at h
            refine rjt (a := (177, [(1, .int ((3 * ((((3 * ((mI m 0 10)))) + ((mX m 5 (((mI m 0 10)).toNatClampNeg)))))))), (0, .ref 0)], [])) (b := (166, [(1, .int ((3 * ((((3 * ((mI m 0 10)))) + ((mX m 5 (((mI m 0 10)).toNatClampNeg)))))))), (0, .ref 0)], [])) rfl rfl c25 ?_
            refine rsn 1 (t := (178, [(1, .int ((3 * ((((3 * ((mI m 0 10)))) + ((mX m 5 (((mI m 0 10)).toNatClampNeg)))))))), (0, .ref 0)], [.int ((-1))])) rfl ?_
            exact rsub [(0, .ref 0), (1, .int ((3 * ((((3 * ((mI m 0 10)))) + ((mX m 5 (((mI m 0 10)).toNatClampNeg))))))))] ⟨rfl, ⟨rfl, trivial⟩⟩ ⟨rfl, ⟨rfl, trivial⟩⟩ (jp178 ((-1)) h)
          · rw [if_neg c25] at h
            refine rjf (a := (177, [(1, .int ((3 * ((((3 * ((mI m 0 10)))) + ((mX m 5 (((mI m 0 10)).toNatClampNeg)))))))), (0, .ref 0)], [])) (b := (166, [(1, .int ((3 * ((((3 * ((mI m 0 10)))) + ((mX m 5 (((mI m 0 10)).toNatClampNeg)))))))), (0, .ref 0)], [])) rfl rfl c25 ?_
            refine rsn 2 (t := (168, [(1, .int ((3 * ((((3 * ((mI m 0 10)))) + ((mX m 5 (((mI m 0 10)).toNatClampNeg)))))))), (0, .ref 0)], [.ref 0, .ref 0])) rfl ?_
            refine pgJ rfl rfl rfl (hSh.k 0 rfl _) ?_
            show RN xs L al (Ev xs L al d) 168 171 [(1, .int ((3 * ((((3 * ((mI m 0 10)))) + ((mX m 5 (((mI m 0 10)).toNatClampNeg)))))))), (0, .ref 0)] [.long ((mJ m17 0 5)), .ref 0] (m17, S) (some (.int r0)) (mf, S)
            obtain ⟨r26, g26, h⟩ := b1_some h
            refine rcV 163 0 [.long ((mJ m17 0 5))] rfl rfl rfl (hSh.k 0 rfl _) (Nat.le_of_ble_eq_true rfl) rfl (e_Mo_named N (by omega) hSh g26) ?_
            show RN xs L al (Ev xs L al d) 168 174 [(1, .int ((3 * ((((3 * ((mI m 0 10)))) + ((mX m 5 (((mI m 0 10)).toNatClampNeg)))))))), (0, .ref 0)] [.int r26] (m17, S) (some (.int r0)) (mf, S)
            refine rsn 1 (t := (178, [(1, .int ((3 * ((((3 * ((mI m 0 10)))) + ((mX m 5 (((mI m 0 10)).toNatClampNeg)))))))), (0, .ref 0)], [.int r26])) rfl ?_
            exact rsub [(0, .ref 0), (1, .int ((3 * ((((3 * ((mI m 0 10)))) + ((mX m 5 (((mI m 0 10)).toNatClampNeg))))))))] ⟨rfl, ⟨rfl, trivial⟩⟩ ⟨rfl, ⟨rfl, trivial⟩⟩ (jp178 r26 h)
      · rw [if_neg c14] at h
        refine rjf (a := (144, [(1, .int ((3 * ((((3 * ((mI m 0 10)))) + ((mX m 5 (((mI m 0 10)).toNatClampNeg)))))))), (0, .ref 0)], [])) (b := (104, [(1, .int ((3 * ((((3 * ((mI m 0 10)))) + ((mX m 5 (((mI m 0 10)).toNatClampNeg)))))))), (0, .ref 0)], [])) rfl rfl c14 ?_
        refine rsn 1 (t := (105, [(1, .int ((3 * ((((3 * ((mI m 0 10)))) + ((mX m 5 (((mI m 0 10)).toNatClampNeg)))))))), (0, .ref 0)], [.ref 0])) rfl ?_
        obtain ⟨m27, g27, h⟩ := b3_some h
        refine rcV 148 0 [] rfl rfl rfl (hSh.k 0 rfl _) (Nat.le_of_ble_eq_true rfl) rfl (e_Mo_next N (by omega) hSh g27) ?_
        show RN xs L al (Ev xs L al d) 168 108 [(1, .int ((3 * ((((3 * ((mI m 0 10)))) + ((mX m 5 (((mI m 0 10)).toNatClampNeg)))))))), (0, .ref 0)] [] (m27, S) (some (.int r0)) (mf, S)
        refine rsn 3 (t := (111, [(1, .int ((3 * ((((3 * ((mI m 0 10)))) + ((mX m 5 (((mI m 0 10)).toNatClampNeg)))))))), (0, .ref 0)], [.int 2, .int 0, .ref 0])) rfl ?_
        obtain ⟨r28, g28, h⟩ := b1_some h
        refine rcV 164 0 [.int 0, .int 2] rfl rfl rfl (hSh.k 0 rfl _) (Nat.le_of_ble_eq_true rfl) rfl (e_Mo_isNumber N (by omega) hSh g28) ?_
        show RN xs L al (Ev xs L al d) 168 114 [(1, .int ((3 * ((((3 * ((mI m 0 10)))) + ((mX m 5 (((mI m 0 10)).toNatClampNeg)))))))), (0, .ref 0)] [.int r28] (m27, S) (some (.int r0)) (mf, S)
        by_cases c29 : r28 = 0
        · rw [if_pos c29] at h
          refine rjf (a := (119, [(1, .int ((3 * ((((3 * ((mI m 0 10)))) + ((mX m 5 (((mI m 0 10)).toNatClampNeg)))))))), (0, .ref 0)], [])) (b := (117, [(1, .int ((3 * ((((3 * ((mI m 0 10)))) + ((mX m 5 (((mI m 0 10)).toNatClampNeg)))))))), (0, .ref 0)], [])) rfl rfl (fun q => q c29) ?_
          refine rsn 1 (t := (118, [(1, .int ((3 * ((((3 * ((mI m 0 10)))) + ((mX m 5 (((mI m 0 10)).toNatClampNeg)))))))), (0, .ref 0)], [.int 0])) rfl ?_
          cases h
          exact rret rfl ⟨rfl, rfl, _, _, rfl, rfl, rfl, rfl⟩
        · rw [if_neg c29] at h
          refine rjt (a := (119, [(1, .int ((3 * ((((3 * ((mI m 0 10)))) + ((mX m 5 (((mI m 0 10)).toNatClampNeg)))))))), (0, .ref 0)], [])) (b := (117, [(1, .int ((3 * ((((3 * ((mI m 0 10)))) + ((mX m 5 (((mI m 0 10)).toNatClampNeg)))))))), (0, .ref 0)], [])) rfl rfl c29 ?_
          refine rsn 1 (t := (120, [(1, .int ((3 * ((((3 * ((mI m 0 10)))) + ((mX m 5 (((mI m 0 10)).toNatClampNeg)))))))), (0, .ref 0)], [.ref 0])) rfl ?_
          refine rgR rfl rfl rfl (hSh.k 0 rfl _) (hSh.r 5 rfl _) ?_
          refine rsn 4 (t := (127, [(1, .int ((3 * ((((3 * ((mI m 0 10)))) + ((mX m 5 (((mI m 0 10)).toNatClampNeg)))))))), (0, .ref 0)], [.int 0, .int ((((3 * ((((3 * ((mI m 0 10)))) + ((mX m 5 (((mI m 0 10)).toNatClampNeg))))))) + 1)), .ref 6])) rfl ?_
          obtain ⟨c30, h⟩ := ck_some h
          refine psI rfl (hSh.k 6 rfl _) (hSh.l 5 rfl _) c30 ?_
          refine rsn 1 (t := (129, [(1, .int ((3 * ((((3 * ((mI m 0 10)))) + ((mX m 5 (((mI m 0 10)).toNatClampNeg)))))))), (0, .ref 0)], [.ref 0])) rfl ?_
          refine rgR rfl rfl rfl (hSh.k 0 rfl _) (hSh.r 5 rfl _) ?_
          refine rsn 4 (t := (136, [(1, .int ((3 * ((((3 * ((mI m 0 10)))) + ((mX m 5 (((mI m 0 10)).toNatClampNeg)))))))), (0, .ref 0)], [.ref 0, .int ((((3 * ((((3 * ((mI m 0 10)))) + ((mX m 5 (((mI m 0 10)).toNatClampNeg))))))) + 2)), .ref 6])) rfl ?_
          refine pgJ rfl rfl rfl (hSh.k 0 rfl _) ?_
          show RN xs L al (Ev xs L al d) 168 139 [(1, .int ((3 * ((((3 * ((mI m 0 10)))) + ((mX m 5 (((mI m 0 10)).toNatClampNeg)))))))), (0, .ref 0)] [.long ((mJ m27 0 5)), .int ((((3 * ((((3 * ((mI m 0 10)))) + ((mX m 5 (((mI m 0 10)).toNatClampNeg))))))) + 2)), .ref 6] ((vX m27 6 (((((3 * ((((3 * ((mI m 0 10)))) + ((mX m 5 (((mI m 0 10)).toNatClampNeg))))))) + 1)).toNatClampNeg) 0), S) (some (.int r0)) (mf, S)
          refine rsn 1 (t := (140, [(1, .int ((3 * ((((3 * ((mI m 0 10)))) + ((mX m 5 (((mI m 0 10)).toNatClampNeg)))))))), (0, .ref 0)], [.int (((mJ m27 0 5)).toInt32), .int ((((3 * ((((3 * ((mI m 0 10)))) + ((mX m 5 (((mI m 0 10)).toNatClampNeg))))))) + 2)), .ref 6])) rfl ?_
          obtain ⟨c31, h⟩ := ck_some h
          refine psI rfl (hSh.k 6 rfl _) (hSh.l 5 rfl _) c31 ?_
          refine rsn 1 (t := (213, [(1, .int ((3 * ((((3 * ((mI m 0 10)))) + ((mX m 5 (((mI m 0 10)).toNatClampNeg)))))))), (0, .ref 0)], [])) rfl ?_
          exact rsub [(0, .ref 0)] ⟨rfl, trivial⟩ ⟨rfl, trivial⟩ (jp213 ((vX (vX m27 6 (((((3 * ((((3 * ((mI m 0 10)))) + ((mX m 5 (((mI m 0 10)).toNatClampNeg))))))) + 1)).toNatClampNeg) 0) 6 (((((3 * ((((3 * ((mI m 0 10)))) + ((mX m 5 (((mI m 0 10)).toNatClampNeg))))))) + 2)).toNatClampNeg) (((mJ m27 0 5)).toInt32))) h)
    · rw [if_neg c12] at h
      refine rjf (a := (95, [(1, .int ((3 * ((((3 * ((mI m 0 10)))) + ((mX m 5 (((mI m 0 10)).toNatClampNeg)))))))), (0, .ref 0)], [])) (b := (83, [(1, .int ((3 * ((((3 * ((mI m 0 10)))) + ((mX m 5 (((mI m 0 10)).toNatClampNeg)))))))), (0, .ref 0)], [])) rfl rfl c12 ?_
      refine rsn 1 (t := (84, [(1, .int ((3 * ((((3 * ((mI m 0 10)))) + ((mX m 5 (((mI m 0 10)).toNatClampNeg)))))))), (0, .ref 0)], [.ref 0])) rfl ?_
      refine rgR rfl rfl rfl (hSh.k 0 rfl _) (hSh.r 5 rfl _) ?_
      refine rsn 4 (t := (91, [(1, .int ((3 * ((((3 * ((mI m 0 10)))) + ((mX m 5 (((mI m 0 10)).toNatClampNeg)))))))), (0, .ref 0)], [.int 2, .int ((((3 * ((((3 * ((mI m 0 10)))) + ((mX m 5 (((mI m 0 10)).toNatClampNeg))))))) + 1)), .ref 6])) rfl ?_
      obtain ⟨c32, h⟩ := ck_some h
      refine psI rfl (hSh.k 6 rfl _) (hSh.l 5 rfl _) c32 ?_
      refine rsn 1 (t := (213, [(1, .int ((3 * ((((3 * ((mI m 0 10)))) + ((mX m 5 (((mI m 0 10)).toNatClampNeg)))))))), (0, .ref 0)], [])) rfl ?_
      exact rsub [(0, .ref 0)] ⟨rfl, trivial⟩ ⟨rfl, trivial⟩ (jp213 ((vX (vX m5 6 (((((3 * ((((3 * ((mI m 0 10)))) + ((mX m 5 (((mI m 0 10)).toNatClampNeg))))))) + 2)).toNatClampNeg) ((-1))) 6 (((((3 * ((((3 * ((mI m 0 10)))) + ((mX m 5 (((mI m 0 10)).toNatClampNeg))))))) + 1)).toNatClampNeg) 2)) h)
