/-! The reference's methods as functions (printed by wip/whole/gen_fun.py). -/
def f_Mo_feed_L18 (N : Nat) (x1 : Int32) (x2 : Int32) (x3 : Int32) (x4 : Int32) (x5 : Int32) (k18 : Int32 → Mm → Option (Int32 × Mm)) : Nat → Int32 → Mm → Option (Int32 × Mm)
  | 0, _, _ => none
  | n18 + 1, x6, m => f_Mo_feed_L18 N x1 x2 x3 x4 x5 k18 n18 x6 m
def f_Mo_feed (N : Nat) (x1 : Int32) (x2 : Int32) (x3 : Int32) (x4 : Int32) (x5 : Int32) (m : Mm) : Option (Int32 × Mm) := (if ((((mI m 0 1)) + 20)) ≤ 400 then f_Mo_feed_L18 N x1 x2 x3 x4 x5 (fun (z2_6 : Int32) (m2 : Mm) => some ((mI m2 0 1), m2)) N 0 m else some ((-1), m))
set_option maxRecDepth 20000 in
set_option maxHeartbeats 4000000 in
theorem e_Mo_feed {xs : Nat → Int32} {L : Nat} {al : Bool} (N : Nat) {d : Nat} (hd : 1 ≤ d) {S : St} (hSh : ShR S) {x1 : Int32} {x2 : Int32} {x3 : Int32} {x4 : Int32} {x5 : Int32} {m : Mm} {r0 : Int32} {mf : Mm} (h : f_Mo_feed N x1 x2 x3 x4 x5 m = some (r0, mf)) : Ev xs L al d 144 [.ref 0, .int x1, .int x2, .int x3, .int x4, .int x5] (m, S) (some (.int r0)) (mf, S) := by
  obtain ⟨d, rfl⟩ : ∃ e, d = e + 1 := ⟨d - 1, by omega⟩
  refine ev_of (by decide) (Nat.le_of_ble_eq_true rfl) ?_
  rw [f_Mo_feed] at h
  show RN xs L al (Ev xs L al d) 144 0 [(0, .ref 0), (1, .int x1), (2, .int x2), (3, .int x3), (4, .int x4), (5, .int x5)] [] (m, S) (some (.int r0)) (mf, S)
  refine rsn 1 (t := (1, [(0, .ref 0), (1, .int x1), (2, .int x2), (3, .int x3), (4, .int x4), (5, .int x5)], [.ref 0])) rfl ?_
  refine pgI rfl rfl rfl (hSh.k 0 rfl _) ?_
  show RN xs L al (Ev xs L al d) 144 4 [(0, .ref 0), (1, .int x1), (2, .int x2), (3, .int x3), (4, .int x4), (5, .int x5)] [.int ((mI m 0 1))] (m, S) (some (.int r0)) (mf, S)
  refine rsn 3 (t := (10, [(0, .ref 0), (1, .int x1), (2, .int x2), (3, .int x3), (4, .int x4), (5, .int x5)], [.int 400, .int ((((mI m 0 1)) + 20))])) rfl ?_
  by_cases c1 : ((((mI m 0 1)) + 20)) ≤ 400
  · rw [if_pos c1] at h
    refine rjt (a := (15, [(0, .ref 0), (1, .int x1), (2, .int x2), (3, .int x3), (4, .int x4), (5, .int x5)], [])) (b := (13, [(0, .ref 0), (1, .int x1), (2, .int x2), (3, .int x3), (4, .int x4), (5, .int x5)], [])) rfl rfl c1 ?_
    refine rsn 2 (t := (18, [(6, .int 0), (0, .ref 0), (1, .int x1), (2, .int x2), (3, .int x3), (4, .int x4), (5, .int x5)], [])) rfl ?_
    have ex18 : ∀ (z2_6 : Int32) (m2 : Mm), (some ((mI m2 0 1), m2)) = some (r0, mf) → RN xs L al (Ev xs L al d) 144 112 [(0, .ref 0)] [] (m2, S) (some (.int r0)) (mf, S) := by
      intro z2_6 m2 h
      try dsimp only at h
      refine rsn 1 (t := (113, [(0, .ref 0)], [.ref 0])) rfl ?_
      refine pgI rfl rfl rfl (hSh.k 0 rfl _) ?_
      show RN xs L al (Ev xs L al d) 144 116 [(0, .ref 0)] [.int ((mI m2 0 1))] (m2, S) (some (.int r0)) (mf, S)
      cases h
      exact rret rfl ⟨rfl, rfl, _, _, rfl, rfl, rfl, rfl⟩
    have lp18 : ∀ (n : Nat) (y3_6 : Int32) (m3 : Mm), (f_Mo_feed_L18 N x1 x2 x3 x4 x5 (fun (z2_6 : Int32) (m2 : Mm) => some ((mI m2 0 1), m2)) n y3_6 m3) = some (r0, mf) → RN xs L al (Ev xs L al d) 144 18 [(0, .ref 0), (1, .int x1), (2, .int x2), (3, .int x3), (4, .int x4), (5, .int x5), (6, .int y3_6)] [] (m3, S) (some (.int r0)) (mf, S) := by
      intro n
      induction n with
      | zero => intro y3_6 m3 h; exact absurd h (by simp [f_Mo_feed_L18])
      | succ n18 ih18 =>
        intro y3_6 m3 h
        try dsimp only at h
        rw [f_Mo_feed_L18] at h
        try dsimp only at h
        exact rsub [(0, .ref 0), (1, .int x1), (2, .int x2), (3, .int x3), (4, .int x4), (5, .int x5), (6, .int y3_6)] ⟨rfl, ⟨rfl, ⟨rfl, ⟨rfl, ⟨rfl, ⟨rfl, ⟨rfl, trivial⟩⟩⟩⟩⟩⟩⟩ ⟨rfl, ⟨rfl, ⟨rfl, ⟨rfl, ⟨rfl, ⟨rfl, ⟨rfl, trivial⟩⟩⟩⟩⟩⟩⟩ (ih18 y3_6 m3 h)
    exact rsub [(0, .ref 0), (1, .int x1), (2, .int x2), (3, .int x3), (4, .int x4), (5, .int x5), (6, .int 0)] ⟨rfl, ⟨rfl, ⟨rfl, ⟨rfl, ⟨rfl, ⟨rfl, ⟨rfl, trivial⟩⟩⟩⟩⟩⟩⟩ ⟨rfl, ⟨rfl, ⟨rfl, ⟨rfl, ⟨rfl, ⟨rfl, ⟨rfl, trivial⟩⟩⟩⟩⟩⟩⟩ (lp18 N 0 m h)
  · rw [if_neg c1] at h
    refine rjf (a := (15, [(0, .ref 0), (1, .int x1), (2, .int x2), (3, .int x3), (4, .int x4), (5, .int x5)], [])) (b := (13, [(0, .ref 0), (1, .int x1), (2, .int x2), (3, .int x3), (4, .int x4), (5, .int x5)], [])) rfl rfl c1 ?_
    refine rsn 1 (t := (14, [(0, .ref 0), (1, .int x1), (2, .int x2), (3, .int x3), (4, .int x4), (5, .int x5)], [.int ((-1))])) rfl ?_
    cases h
    exact rret rfl ⟨rfl, rfl, _, _, rfl, rfl, rfl, rfl⟩
def f_Mo_end (N : Nat) (x1 : Int32) (m : Mm) : Option (Int32 × Mm) := b1 (f_Mo_in N x1 0 ((mI m 0 1))) fun r1 => (if r1 = 0 then some (0, m) else some (1, (vI m 0 1 x1)))
set_option maxRecDepth 20000 in
set_option maxHeartbeats 4000000 in
theorem e_Mo_end {xs : Nat → Int32} {L : Nat} {al : Bool} (N : Nat) {d : Nat} (hd : 2 ≤ d) {S : St} (hSh : ShR S) {x1 : Int32} {m : Mm} {r0 : Int32} {mf : Mm} (h : f_Mo_end N x1 m = some (r0, mf)) : Ev xs L al d 145 [.ref 0, .int x1] (m, S) (some (.int r0)) (mf, S) := by
  obtain ⟨d, rfl⟩ : ∃ e, d = e + 1 := ⟨d - 1, by omega⟩
  refine ev_of (by decide) (Nat.le_of_ble_eq_true rfl) ?_
  rw [f_Mo_end] at h
  show RN xs L al (Ev xs L al d) 145 0 [(0, .ref 0), (1, .int x1)] [] (m, S) (some (.int r0)) (mf, S)
  refine rsn 3 (t := (3, [(0, .ref 0), (1, .int x1)], [.ref 0, .int 0, .int x1])) rfl ?_
  refine pgI rfl rfl rfl (hSh.k 0 rfl _) ?_
  show RN xs L al (Ev xs L al d) 145 6 [(0, .ref 0), (1, .int x1)] [.int ((mI m 0 1)), .int 0, .int x1] (m, S) (some (.int r0)) (mf, S)
  obtain ⟨r1, g1, h⟩ := b1_some h
  refine rcS 146 [.int x1, .int 0, .int ((mI m 0 1))] rfl rfl rfl (Nat.le_of_ble_eq_true rfl) rfl (e_Mo_in N (by omega) g1) ?_
  show RN xs L al (Ev xs L al d) 145 9 [(0, .ref 0), (1, .int x1)] [.int r1] (m, S) (some (.int r0)) (mf, S)
  by_cases c2 : r1 = 0
  · rw [if_pos c2] at h
    refine rjf (a := (14, [(0, .ref 0), (1, .int x1)], [])) (b := (12, [(0, .ref 0), (1, .int x1)], [])) rfl rfl (fun q => q c2) ?_
    refine rsn 1 (t := (13, [(0, .ref 0), (1, .int x1)], [.int 0])) rfl ?_
    cases h
    exact rret rfl ⟨rfl, rfl, _, _, rfl, rfl, rfl, rfl⟩
  · rw [if_neg c2] at h
    refine rjt (a := (14, [(0, .ref 0), (1, .int x1)], [])) (b := (12, [(0, .ref 0), (1, .int x1)], [])) rfl rfl c2 ?_
    refine rsn 2 (t := (16, [(0, .ref 0), (1, .int x1)], [.int x1, .ref 0])) rfl ?_
    refine ppI rfl rfl rfl rfl (hSh.k 0 rfl _) ?_
    refine rsn 1 (t := (20, [(0, .ref 0), (1, .int x1)], [.int 1])) rfl ?_
    cases h
    exact rret rfl ⟨rfl, rfl, _, _, rfl, rfl, rfl, rfl⟩
def f_Mo_next_L0 (N : Nat) (k0 : Mm → Option (Mm)) : Nat → Mm → Option (Mm)
  | 0, _ => none
  | n0 + 1, m => f_Mo_next_L0 N k0 n0 m
def f_Mo_next_L208 (N : Nat) (k208 : Mm → Option (Mm)) : Nat → Mm → Option (Mm)
  | 0, _ => none
  | n208 + 1, m => f_Mo_next_L208 N k208 n208 m
def f_Mo_next_L99 (N : Nat) (k99 : Mm → Option (Mm)) : Nat → Mm → Option (Mm)
  | 0, _ => none
  | n99 + 1, m => f_Mo_next_L99 N k99 n99 m
def f_Mo_next (N : Nat) (m : Mm) : Option (Mm) := f_Mo_next_L0 N (fun (m1 : Mm) => (if ((mI m1 0 2)) = ((mI m1 0 1)) then some (vI (vJ (vI m1 0 4 ((mI m1 0 2))) 0 5 0) 0 3 0) else ck (ix ((mI m1 0 2)) 400) (b1 (f_Mo_isLetter N ((mX m1 1 (((mI m1 0 2)).toNatClampNeg)))) fun r4 => (if r4 = 0 then b1 (f_Mo_isDigit N ((mX m1 1 (((mI m1 0 2)).toNatClampNeg)))) fun r6 => (if r6 = 0 then (jn (fun (s8 : Int32) => some (vI (vJ (vI (vI (vJ (vI m1 0 4 ((mI m1 0 2))) 0 5 0) 0 3 0) 0 3 s8) 0 5 (((mX m1 1 (((mI m1 0 2)).toNatClampNeg))).toInt64)) 0 2 ((((mI m1 0 2)) + 1)))) (fun j318 => jn (fun (_ : Unit) => j318 3) (fun j313 => if ((mX m1 1 (((mI m1 0 2)).toNatClampNeg))) = 44 then j313 () else (if ((mX m1 1 (((mI m1 0 2)).toNatClampNeg))) = 59 then j313 () else j318 4)))) else f_Mo_next_L208 N (fun (m11 : Mm) => some (vI m11 0 3 2)) N (vI (vJ (vI m1 0 4 ((mI m1 0 2))) 0 5 0) 0 3 0)) else f_Mo_next_L99 N (fun (m13 : Mm) => (if ((((mI m13 0 2)) - ((mI m13 0 4)))) ≤ 8 then some (vI m13 0 3 1) else some (vI (vJ m13 0 5 0) 0 3 1))) N (vI (vJ (vI m1 0 4 ((mI m1 0 2))) 0 5 0) 0 3 0))))) N m
set_option maxRecDepth 20000 in
set_option maxHeartbeats 4000000 in
theorem e_Mo_next {xs : Nat → Int32} {L : Nat} {al : Bool} (N : Nat) {d : Nat} (hd : 2 ≤ d) {S : St} (hSh : ShR S) {m : Mm} {mf : Mm} (h : f_Mo_next N m = some mf) : Ev xs L al d 148 [.ref 0] (m, S) none (mf, S) := by
  obtain ⟨d, rfl⟩ : ∃ e, d = e + 1 := ⟨d - 1, by omega⟩
  refine ev_of (by decide) (Nat.le_of_ble_eq_true rfl) ?_
  rw [f_Mo_next] at h
  show RN xs L al (Ev xs L al d) 148 0 [(0, .ref 0)] [] (m, S) none (mf, S)
  have ex0 : ∀ (m1 : Mm), ((if ((mI m1 0 2)) = ((mI m1 0 1)) then some (vI (vJ (vI m1 0 4 ((mI m1 0 2))) 0 5 0) 0 3 0) else ck (ix ((mI m1 0 2)) 400) (b1 (f_Mo_isLetter N ((mX m1 1 (((mI m1 0 2)).toNatClampNeg)))) fun r4 => (if r4 = 0 then b1 (f_Mo_isDigit N ((mX m1 1 (((mI m1 0 2)).toNatClampNeg)))) fun r6 => (if r6 = 0 then (jn (fun (s8 : Int32) => some (vI (vJ (vI (vI (vJ (vI m1 0 4 ((mI m1 0 2))) 0 5 0) 0 3 0) 0 3 s8) 0 5 (((mX m1 1 (((mI m1 0 2)).toNatClampNeg))).toInt64)) 0 2 ((((mI m1 0 2)) + 1)))) (fun j318 => jn (fun (_ : Unit) => j318 3) (fun j313 => if ((mX m1 1 (((mI m1 0 2)).toNatClampNeg))) = 44 then j313 () else (if ((mX m1 1 (((mI m1 0 2)).toNatClampNeg))) = 59 then j313 () else j318 4)))) else f_Mo_next_L208 N (fun (m11 : Mm) => some (vI m11 0 3 2)) N (vI (vJ (vI m1 0 4 ((mI m1 0 2))) 0 5 0) 0 3 0)) else f_Mo_next_L99 N (fun (m13 : Mm) => (if ((((mI m13 0 2)) - ((mI m13 0 4)))) ≤ 8 then some (vI m13 0 3 1) else some (vI (vJ m13 0 5 0) 0 3 1))) N (vI (vJ (vI m1 0 4 ((mI m1 0 2))) 0 5 0) 0 3 0))))) = some mf → RN xs L al (Ev xs L al d) 148 52 [(0, .ref 0)] [] (m1, S) none (mf, S) := by
    intro m1 h
    try dsimp only at h
    refine rsn 2 (t := (54, [(0, .ref 0)], [.ref 0, .ref 0])) rfl ?_
    refine pgI rfl rfl rfl (hSh.k 0 rfl _) ?_
    show RN xs L al (Ev xs L al d) 148 57 [(0, .ref 0)] [.int ((mI m1 0 2)), .ref 0] (m1, S) none (mf, S)
    refine ppI rfl rfl rfl rfl (hSh.k 0 rfl _) ?_
    refine rsn 2 (t := (62, [(0, .ref 0)], [.long 0, .ref 0])) rfl ?_
    refine ppJ rfl rfl rfl rfl (hSh.k 0 rfl _) ?_
    refine rsn 2 (t := (67, [(0, .ref 0)], [.int 0, .ref 0])) rfl ?_
    refine ppI rfl rfl rfl rfl (hSh.k 0 rfl _) ?_
    refine rsn 1 (t := (71, [(0, .ref 0)], [.ref 0])) rfl ?_
    refine pgI rfl rfl rfl (hSh.k 0 rfl _) ?_
    show RN xs L al (Ev xs L al d) 148 74 [(0, .ref 0)] [.int ((mI m1 0 2))] ((vI (vJ (vI m1 0 4 ((mI m1 0 2))) 0 5 0) 0 3 0), S) none (mf, S)
    refine rsn 1 (t := (75, [(0, .ref 0)], [.ref 0, .int ((mI m1 0 2))])) rfl ?_
    refine pgI rfl rfl rfl (hSh.k 0 rfl _) ?_
    show RN xs L al (Ev xs L al d) 148 78 [(0, .ref 0)] [.int ((mI m1 0 1)), .int ((mI m1 0 2))] ((vI (vJ (vI m1 0 4 ((mI m1 0 2))) 0 5 0) 0 3 0), S) none (mf, S)
    by_cases c2 : ((mI m1 0 2)) = ((mI m1 0 1))
    · rw [if_pos c2] at h
      refine rjf (a := (82, [(0, .ref 0)], [])) (b := (81, [(0, .ref 0)], [])) rfl rfl (fun q => q c2) ?_
      cases h
      exact rret rfl ⟨rfl, rfl, rfl, rfl, rfl⟩
    · rw [if_neg c2] at h
      refine rjt (a := (82, [(0, .ref 0)], [])) (b := (81, [(0, .ref 0)], [])) rfl rfl c2 ?_
      refine rsn 1 (t := (83, [(0, .ref 0)], [.ref 0])) rfl ?_
      refine rgR rfl rfl rfl (hSh.k 0 rfl _) (hSh.r 0 rfl _) ?_
      refine rsn 1 (t := (87, [(0, .ref 0)], [.ref 0, .ref 1])) rfl ?_
      refine pgI rfl rfl rfl (hSh.k 0 rfl _) ?_
      show RN xs L al (Ev xs L al d) 148 90 [(0, .ref 0)] [.int ((mI m1 0 2)), .ref 1] ((vI (vJ (vI m1 0 4 ((mI m1 0 2))) 0 5 0) 0 3 0), S) none (mf, S)
      obtain ⟨c3, h⟩ := ck_some h
      refine pxB rfl (Or.inl (hSh.k 1 rfl _)) (hSh.l 0 rfl _) c3 ?_
      show RN xs L al (Ev xs L al d) 148 91 [(0, .ref 0)] [.int ((mX m1 1 (((mI m1 0 2)).toNatClampNeg)))] ((vI (vJ (vI m1 0 4 ((mI m1 0 2))) 0 5 0) 0 3 0), S) none (mf, S)
      refine rsn 2 (t := (93, [(1, .int ((mX m1 1 (((mI m1 0 2)).toNatClampNeg)))), (0, .ref 0)], [.int ((mX m1 1 (((mI m1 0 2)).toNatClampNeg)))])) rfl ?_
      obtain ⟨r4, g4, h⟩ := b1_some h
      refine rcS 149 [.int ((mX m1 1 (((mI m1 0 2)).toNatClampNeg)))] rfl rfl rfl (Nat.le_of_ble_eq_true rfl) rfl (e_Mo_isLetter N (by omega) g4) ?_
      show RN xs L al (Ev xs L al d) 148 96 [(1, .int ((mX m1 1 (((mI m1 0 2)).toNatClampNeg)))), (0, .ref 0)] [.int r4] ((vI (vJ (vI m1 0 4 ((mI m1 0 2))) 0 5 0) 0 3 0), S) none (mf, S)
      by_cases c5 : r4 = 0
      · rw [if_pos c5] at h
        refine rjt (a := (201, [(1, .int ((mX m1 1 (((mI m1 0 2)).toNatClampNeg)))), (0, .ref 0)], [])) (b := (99, [(1, .int ((mX m1 1 (((mI m1 0 2)).toNatClampNeg)))), (0, .ref 0)], [])) rfl rfl c5 ?_
        refine rsn 1 (t := (202, [(1, .int ((mX m1 1 (((mI m1 0 2)).toNatClampNeg)))), (0, .ref 0)], [.int ((mX m1 1 (((mI m1 0 2)).toNatClampNeg)))])) rfl ?_
        obtain ⟨r6, g6, h⟩ := b1_some h
        refine rcS 150 [.int ((mX m1 1 (((mI m1 0 2)).toNatClampNeg)))] rfl rfl rfl (Nat.le_of_ble_eq_true rfl) rfl (e_Mo_isDigit N (by omega) g6) ?_
        show RN xs L al (Ev xs L al d) 148 205 [(1, .int ((mX m1 1 (((mI m1 0 2)).toNatClampNeg)))), (0, .ref 0)] [.int r6] ((vI (vJ (vI m1 0 4 ((mI m1 0 2))) 0 5 0) 0 3 0), S) none (mf, S)
        by_cases c7 : r6 = 0
        · rw [if_pos c7] at h
          refine rjt (a := (300, [(1, .int ((mX m1 1 (((mI m1 0 2)).toNatClampNeg)))), (0, .ref 0)], [])) (b := (208, [(1, .int ((mX m1 1 (((mI m1 0 2)).toNatClampNeg)))), (0, .ref 0)], [])) rfl rfl c7 ?_
          refine rsn 3 (t := (304, [(1, .int ((mX m1 1 (((mI m1 0 2)).toNatClampNeg)))), (0, .ref 0)], [.int 44, .int ((mX m1 1 (((mI m1 0 2)).toNatClampNeg))), .ref 0])) rfl ?_
          have jp318 : ∀ (s8 : Int32), (some (vI (vJ (vI (vI (vJ (vI m1 0 4 ((mI m1 0 2))) 0 5 0) 0 3 0) 0 3 s8) 0 5 (((mX m1 1 (((mI m1 0 2)).toNatClampNeg))).toInt64)) 0 2 ((((mI m1 0 2)) + 1)))) = some mf → RN xs L al (Ev xs L al d) 148 318 [(0, .ref 0), (1, .int ((mX m1 1 (((mI m1 0 2)).toNatClampNeg))))] [.int s8, .ref 0] ((vI (vJ (vI m1 0 4 ((mI m1 0 2))) 0 5 0) 0 3 0), S) none (mf, S) := by
            intro s8 h
            try dsimp only at h
            refine ppI rfl rfl rfl rfl (hSh.k 0 rfl _) ?_
            refine rsn 3 (t := (324, [(0, .ref 0), (1, .int ((mX m1 1 (((mI m1 0 2)).toNatClampNeg))))], [.long (((mX m1 1 (((mI m1 0 2)).toNatClampNeg))).toInt64), .ref 0])) rfl ?_
            refine ppJ rfl rfl rfl rfl (hSh.k 0 rfl _) ?_
            refine rsn 2 (t := (329, [(0, .ref 0), (1, .int ((mX m1 1 (((mI m1 0 2)).toNatClampNeg))))], [.ref 0, .ref 0])) rfl ?_
            refine pgI rfl rfl rfl (hSh.k 0 rfl _) ?_
            show RN xs L al (Ev xs L al d) 148 332 [(0, .ref 0), (1, .int ((mX m1 1 (((mI m1 0 2)).toNatClampNeg))))] [.int ((mI m1 0 2)), .ref 0] ((vJ (vI (vI (vJ (vI m1 0 4 ((mI m1 0 2))) 0 5 0) 0 3 0) 0 3 s8) 0 5 (((mX m1 1 (((mI m1 0 2)).toNatClampNeg))).toInt64)), S) none (mf, S)
            refine rsn 2 (t := (334, [(0, .ref 0), (1, .int ((mX m1 1 (((mI m1 0 2)).toNatClampNeg))))], [.int ((((mI m1 0 2)) + 1)), .ref 0])) rfl ?_
            refine ppI rfl rfl rfl rfl (hSh.k 0 rfl _) ?_
            cases h
            exact rret rfl ⟨rfl, rfl, rfl, rfl, rfl⟩
          rw [jn] at h
          try dsimp only at h
          have jp313 : ∀ (_ : Unit), (((fun j318 => j318 3) (fun (s8 : Int32) => some (vI (vJ (vI (vI (vJ (vI m1 0 4 ((mI m1 0 2))) 0 5 0) 0 3 0) 0 3 s8) 0 5 (((mX m1 1 (((mI m1 0 2)).toNatClampNeg))).toInt64)) 0 2 ((((mI m1 0 2)) + 1)))))) = some mf → RN xs L al (Ev xs L al d) 148 313 [(0, .ref 0), (1, .int ((mX m1 1 (((mI m1 0 2)).toNatClampNeg))))] [.ref 0] ((vI (vJ (vI m1 0 4 ((mI m1 0 2))) 0 5 0) 0 3 0), S) none (mf, S) := by
            intro _ h
            try dsimp only at h
            refine rsn 2 (t := (318, [(0, .ref 0), (1, .int ((mX m1 1 (((mI m1 0 2)).toNatClampNeg))))], [.int 3, .ref 0])) rfl ?_
            exact rsub [(0, .ref 0), (1, .int ((mX m1 1 (((mI m1 0 2)).toNatClampNeg))))] ⟨rfl, ⟨rfl, trivial⟩⟩ ⟨rfl, ⟨rfl, trivial⟩⟩ (jp318 3 h)
          rw [jn] at h
          try dsimp only at h
          by_cases c9 : ((mX m1 1 (((mI m1 0 2)).toNatClampNeg))) = 44
          · rw [if_pos c9] at h
            refine rjt (a := (313, [(1, .int ((mX m1 1 (((mI m1 0 2)).toNatClampNeg)))), (0, .ref 0)], [.ref 0])) (b := (307, [(1, .int ((mX m1 1 (((mI m1 0 2)).toNatClampNeg)))), (0, .ref 0)], [.ref 0])) rfl rfl c9 ?_
            exact rsub [(0, .ref 0), (1, .int ((mX m1 1 (((mI m1 0 2)).toNatClampNeg))))] ⟨rfl, ⟨rfl, trivial⟩⟩ ⟨rfl, ⟨rfl, trivial⟩⟩ (jp313 () h)
          · rw [if_neg c9] at h
            refine rjf (a := (313, [(1, .int ((mX m1 1 (((mI m1 0 2)).toNatClampNeg)))), (0, .ref 0)], [.ref 0])) (b := (307, [(1, .int ((mX m1 1 (((mI m1 0 2)).toNatClampNeg)))), (0, .ref 0)], [.ref 0])) rfl rfl c9 ?_
            refine rsn 2 (t := (310, [(1, .int ((mX m1 1 (((mI m1 0 2)).toNatClampNeg)))), (0, .ref 0)], [.int 59, .int ((mX m1 1 (((mI m1 0 2)).toNatClampNeg))), .ref 0])) rfl ?_
            by_cases c10 : ((mX m1 1 (((mI m1 0 2)).toNatClampNeg))) = 59
            · rw [if_pos c10] at h
              refine rjf (a := (317, [(1, .int ((mX m1 1 (((mI m1 0 2)).toNatClampNeg)))), (0, .ref 0)], [.ref 0])) (b := (313, [(1, .int ((mX m1 1 (((mI m1 0 2)).toNatClampNeg)))), (0, .ref 0)], [.ref 0])) rfl rfl (fun q => q c10) ?_
              exact rsub [(0, .ref 0), (1, .int ((mX m1 1 (((mI m1 0 2)).toNatClampNeg))))] ⟨rfl, ⟨rfl, trivial⟩⟩ ⟨rfl, ⟨rfl, trivial⟩⟩ (jp313 () h)
            · rw [if_neg c10] at h
              refine rjt (a := (317, [(1, .int ((mX m1 1 (((mI m1 0 2)).toNatClampNeg)))), (0, .ref 0)], [.ref 0])) (b := (313, [(1, .int ((mX m1 1 (((mI m1 0 2)).toNatClampNeg)))), (0, .ref 0)], [.ref 0])) rfl rfl c10 ?_
              refine rsn 1 (t := (318, [(1, .int ((mX m1 1 (((mI m1 0 2)).toNatClampNeg)))), (0, .ref 0)], [.int 4, .ref 0])) rfl ?_
              exact rsub [(0, .ref 0), (1, .int ((mX m1 1 (((mI m1 0 2)).toNatClampNeg))))] ⟨rfl, ⟨rfl, trivial⟩⟩ ⟨rfl, ⟨rfl, trivial⟩⟩ (jp318 4 h)
        · rw [if_neg c7] at h
          refine rjf (a := (300, [(1, .int ((mX m1 1 (((mI m1 0 2)).toNatClampNeg)))), (0, .ref 0)], [])) (b := (208, [(1, .int ((mX m1 1 (((mI m1 0 2)).toNatClampNeg)))), (0, .ref 0)], [])) rfl rfl c7 ?_
          have ex208 : ∀ (m11 : Mm), (some (vI m11 0 3 2)) = some mf → RN xs L al (Ev xs L al d) 148 292 [(0, .ref 0)] [] (m11, S) none (mf, S) := by
            intro m11 h
            try dsimp only at h
            refine rsn 2 (t := (294, [(0, .ref 0)], [.int 2, .ref 0])) rfl ?_
            refine ppI rfl rfl rfl rfl (hSh.k 0 rfl _) ?_
            refine rsn 1 (t := (337, [(0, .ref 0)], [])) rfl ?_
            cases h
            exact rret rfl ⟨rfl, rfl, rfl, rfl, rfl⟩
          have lp208 : ∀ (n : Nat) (m12 : Mm), (f_Mo_next_L208 N (fun (m11 : Mm) => some (vI m11 0 3 2)) n m12) = some mf → RN xs L al (Ev xs L al d) 148 208 [(0, .ref 0)] [] (m12, S) none (mf, S) := by
            intro n
            induction n with
            | zero => intro m12 h; exact absurd h (by simp [f_Mo_next_L208])
            | succ n208 ih208 =>
              intro m12 h
              try dsimp only at h
              rw [f_Mo_next_L208] at h
              try dsimp only at h
              exact rsub [(0, .ref 0)] ⟨rfl, trivial⟩ ⟨rfl, trivial⟩ (ih208 m12 h)
          exact rsub [(0, .ref 0)] ⟨rfl, trivial⟩ ⟨rfl, trivial⟩ (lp208 N (vI (vJ (vI m1 0 4 ((mI m1 0 2))) 0 5 0) 0 3 0) h)
      · rw [if_neg c5] at h
        refine rjf (a := (201, [(1, .int ((mX m1 1 (((mI m1 0 2)).toNatClampNeg)))), (0, .ref 0)], [])) (b := (99, [(1, .int ((mX m1 1 (((mI m1 0 2)).toNatClampNeg)))), (0, .ref 0)], [])) rfl rfl c5 ?_
        have ex99 : ∀ (m13 : Mm), ((if ((((mI m13 0 2)) - ((mI m13 0 4)))) ≤ 8 then some (vI m13 0 3 1) else some (vI (vJ m13 0 5 0) 0 3 1))) = some mf → RN xs L al (Ev xs L al d) 148 174 [(0, .ref 0)] [] (m13, S) none (mf, S) := by
          intro m13 h
          try dsimp only at h
          refine rsn 1 (t := (175, [(0, .ref 0)], [.ref 0])) rfl ?_
          refine pgI rfl rfl rfl (hSh.k 0 rfl _) ?_
          show RN xs L al (Ev xs L al d) 148 178 [(0, .ref 0)] [.int ((mI m13 0 2))] (m13, S) none (mf, S)
          refine rsn 1 (t := (179, [(0, .ref 0)], [.ref 0, .int ((mI m13 0 2))])) rfl ?_
          refine pgI rfl rfl rfl (hSh.k 0 rfl _) ?_
          show RN xs L al (Ev xs L al d) 148 182 [(0, .ref 0)] [.int ((mI m13 0 4)), .int ((mI m13 0 2))] (m13, S) none (mf, S)
          refine rsn 2 (t := (185, [(0, .ref 0)], [.int 8, .int ((((mI m13 0 2)) - ((mI m13 0 4))))])) rfl ?_
          by_cases c14 : ((((mI m13 0 2)) - ((mI m13 0 4)))) ≤ 8
          · rw [if_pos c14] at h
            refine rjt (a := (193, [(0, .ref 0)], [])) (b := (188, [(0, .ref 0)], [])) rfl rfl c14 ?_
            refine rsn 2 (t := (195, [(0, .ref 0)], [.int 1, .ref 0])) rfl ?_
            refine ppI rfl rfl rfl rfl (hSh.k 0 rfl _) ?_
            refine rsn 1 (t := (337, [(0, .ref 0)], [])) rfl ?_
            cases h
            exact rret rfl ⟨rfl, rfl, rfl, rfl, rfl⟩
          · rw [if_neg c14] at h
            refine rjf (a := (193, [(0, .ref 0)], [])) (b := (188, [(0, .ref 0)], [])) rfl rfl c14 ?_
            refine rsn 2 (t := (190, [(0, .ref 0)], [.long 0, .ref 0])) rfl ?_
            refine ppJ rfl rfl rfl rfl (hSh.k 0 rfl _) ?_
            refine rsn 2 (t := (195, [(0, .ref 0)], [.int 1, .ref 0])) rfl ?_
            refine ppI rfl rfl rfl rfl (hSh.k 0 rfl _) ?_
            refine rsn 1 (t := (337, [(0, .ref 0)], [])) rfl ?_
            cases h
            exact rret rfl ⟨rfl, rfl, rfl, rfl, rfl⟩
        have lp99 : ∀ (n : Nat) (m15 : Mm), (f_Mo_next_L99 N (fun (m13 : Mm) => (if ((((mI m13 0 2)) - ((mI m13 0 4)))) ≤ 8 then some (vI m13 0 3 1) else some (vI (vJ m13 0 5 0) 0 3 1))) n m15) = some mf → RN xs L al (Ev xs L al d) 148 99 [(0, .ref 0)] [] (m15, S) none (mf, S) := by
          intro n
          induction n with
          | zero => intro m15 h; exact absurd h (by simp [f_Mo_next_L99])
          | succ n99 ih99 =>
            intro m15 h
            try dsimp only at h
            rw [f_Mo_next_L99] at h
            try dsimp only at h
            exact rsub [(0, .ref 0)] ⟨rfl, trivial⟩ ⟨rfl, trivial⟩ (ih99 m15 h)
        exact rsub [(0, .ref 0)] ⟨rfl, trivial⟩ ⟨rfl, trivial⟩ (lp99 N (vI (vJ (vI m1 0 4 ((mI m1 0 2))) 0 5 0) 0 3 0) h)
  have lp0 : ∀ (n : Nat) (m16 : Mm), (f_Mo_next_L0 N (fun (m1 : Mm) => (if ((mI m1 0 2)) = ((mI m1 0 1)) then some (vI (vJ (vI m1 0 4 ((mI m1 0 2))) 0 5 0) 0 3 0) else ck (ix ((mI m1 0 2)) 400) (b1 (f_Mo_isLetter N ((mX m1 1 (((mI m1 0 2)).toNatClampNeg)))) fun r4 => (if r4 = 0 then b1 (f_Mo_isDigit N ((mX m1 1 (((mI m1 0 2)).toNatClampNeg)))) fun r6 => (if r6 = 0 then (jn (fun (s8 : Int32) => some (vI (vJ (vI (vI (vJ (vI m1 0 4 ((mI m1 0 2))) 0 5 0) 0 3 0) 0 3 s8) 0 5 (((mX m1 1 (((mI m1 0 2)).toNatClampNeg))).toInt64)) 0 2 ((((mI m1 0 2)) + 1)))) (fun j318 => jn (fun (_ : Unit) => j318 3) (fun j313 => if ((mX m1 1 (((mI m1 0 2)).toNatClampNeg))) = 44 then j313 () else (if ((mX m1 1 (((mI m1 0 2)).toNatClampNeg))) = 59 then j313 () else j318 4)))) else f_Mo_next_L208 N (fun (m11 : Mm) => some (vI m11 0 3 2)) N (vI (vJ (vI m1 0 4 ((mI m1 0 2))) 0 5 0) 0 3 0)) else f_Mo_next_L99 N (fun (m13 : Mm) => (if ((((mI m13 0 2)) - ((mI m13 0 4)))) ≤ 8 then some (vI m13 0 3 1) else some (vI (vJ m13 0 5 0) 0 3 1))) N (vI (vJ (vI m1 0 4 ((mI m1 0 2))) 0 5 0) 0 3 0))))) n m16) = some mf → RN xs L al (Ev xs L al d) 148 0 [(0, .ref 0)] [] (m16, S) none (mf, S) := by
    intro n
    induction n with
    | zero => intro m16 h; exact absurd h (by simp [f_Mo_next_L0])
    | succ n0 ih0 =>
      intro m16 h
      try dsimp only at h
      rw [f_Mo_next_L0] at h
      try dsimp only at h
      exact rsub [(0, .ref 0)] ⟨rfl, trivial⟩ ⟨rfl, trivial⟩ (ih0 m16 h)
  exact rsub [(0, .ref 0)] ⟨rfl, trivial⟩ ⟨rfl, trivial⟩ (lp0 N m h)
def f_Mo_isWord (N : Nat) (x1 : Nat) (m : Mm) : Option (Int32) := (if ((mI m 0 3)) = 1 then b1 (f_Mo_packed N x1) fun r2 => (if ((mJ m 0 5)) = r2 then some 1 else some 0) else some 0)
set_option maxRecDepth 20000 in
set_option maxHeartbeats 4000000 in
theorem e_Mo_isWord {xs : Nat → Int32} {L : Nat} {al : Bool} (N : Nat) {d : Nat} (hd : 6 ≤ d) {S : St} (hSh : ShR S) {x1 : Nat} (hx1 : x1 < 8) {m : Mm} {r0 : Int32} (h : f_Mo_isWord N x1 m = some r0) : Ev xs L al d 152 [.ref 0, .retAddr x1] (m, S) (some (.int r0)) (m, S) := by
  obtain ⟨d, rfl⟩ : ∃ e, d = e + 1 := ⟨d - 1, by omega⟩
  refine ev_of (by decide) (Nat.le_of_ble_eq_true rfl) ?_
  rw [f_Mo_isWord] at h
  show RN xs L al (Ev xs L al d) 152 0 [(0, .ref 0), (1, .retAddr x1)] [] (m, S) (some (.int r0)) (m, S)
  refine rsn 1 (t := (1, [(0, .ref 0), (1, .retAddr x1)], [.ref 0])) rfl ?_
  refine pgI rfl rfl rfl (hSh.k 0 rfl _) ?_
  show RN xs L al (Ev xs L al d) 152 4 [(0, .ref 0), (1, .retAddr x1)] [.int ((mI m 0 3))] (m, S) (some (.int r0)) (m, S)
  refine rsn 1 (t := (5, [(0, .ref 0), (1, .retAddr x1)], [.int 1, .int ((mI m 0 3))])) rfl ?_
  by_cases c1 : ((mI m 0 3)) = 1
  · rw [if_pos c1] at h
    refine rjf (a := (24, [(0, .ref 0), (1, .retAddr x1)], [])) (b := (8, [(0, .ref 0), (1, .retAddr x1)], [])) rfl rfl (fun q => q c1) ?_
    refine rsn 1 (t := (9, [(0, .ref 0), (1, .retAddr x1)], [.ref 0])) rfl ?_
    refine pgJ rfl rfl rfl (hSh.k 0 rfl _) ?_
    show RN xs L al (Ev xs L al d) 152 12 [(0, .ref 0), (1, .retAddr x1)] [.long ((mJ m 0 5))] (m, S) (some (.int r0)) (m, S)
    refine rsn 1 (t := (13, [(0, .ref 0), (1, .retAddr x1)], [.retAddr x1, .long ((mJ m 0 5))])) rfl ?_
    obtain ⟨r2, g2, h⟩ := b1_some h
    refine rcS 153 [.retAddr x1] rfl rfl rfl (Nat.le_of_ble_eq_true rfl) rfl (e_Mo_packed N (by omega) hx1 g2) ?_
    show RN xs L al (Ev xs L al d) 152 16 [(0, .ref 0), (1, .retAddr x1)] [.long r2, .long ((mJ m 0 5))] (m, S) (some (.int r0)) (m, S)
    refine rsn 1 (t := (17, [(0, .ref 0), (1, .retAddr x1)], [.int ((lg_cmp ((mJ m 0 5)) r2))])) rfl ?_
    by_cases c3 : ((mJ m 0 5)) = r2
    · rw [if_pos c3] at h
      refine rjf (a := (24, [(0, .ref 0), (1, .retAddr x1)], [])) (b := (20, [(0, .ref 0), (1, .retAddr x1)], [])) rfl rfl (fun q => q (lgc_eq.mpr c3)) ?_
      refine rsn 2 (t := (25, [(0, .ref 0), (1, .retAddr x1)], [.int 1])) rfl ?_
      cases h
      exact rret rfl ⟨rfl, rfl, _, _, rfl, rfl, rfl, rfl⟩
    · rw [if_neg c3] at h
      refine rjt (a := (24, [(0, .ref 0), (1, .retAddr x1)], [])) (b := (20, [(0, .ref 0), (1, .retAddr x1)], [])) rfl rfl (fun q => c3 (lgc_eq.mp q)) ?_
      refine rsn 1 (t := (25, [(0, .ref 0), (1, .retAddr x1)], [.int 0])) rfl ?_
      cases h
      exact rret rfl ⟨rfl, rfl, _, _, rfl, rfl, rfl, rfl⟩
  · rw [if_neg c1] at h
    refine rjt (a := (24, [(0, .ref 0), (1, .retAddr x1)], [])) (b := (8, [(0, .ref 0), (1, .retAddr x1)], [])) rfl rfl c1 ?_
    refine rsn 1 (t := (25, [(0, .ref 0), (1, .retAddr x1)], [.int 0])) rfl ?_
    cases h
    exact rret rfl ⟨rfl, rfl, _, _, rfl, rfl, rfl, rfl⟩
def f_Mo_isSign (N : Nat) (x1 : Int32) (m : Mm) : Option (Int32) := (if ((mI m 0 3)) = 3 then (if ((mJ m 0 5)) = x1.toInt64 then some 1 else some 0) else some 0)
set_option maxRecDepth 20000 in
set_option maxHeartbeats 4000000 in
theorem e_Mo_isSign {xs : Nat → Int32} {L : Nat} {al : Bool} (N : Nat) {d : Nat} (hd : 1 ≤ d) {S : St} (hSh : ShR S) {x1 : Int32} {m : Mm} {r0 : Int32} (h : f_Mo_isSign N x1 m = some r0) : Ev xs L al d 166 [.ref 0, .int x1] (m, S) (some (.int r0)) (m, S) := by
  obtain ⟨d, rfl⟩ : ∃ e, d = e + 1 := ⟨d - 1, by omega⟩
  refine ev_of (by decide) (Nat.le_of_ble_eq_true rfl) ?_
  rw [f_Mo_isSign] at h
  show RN xs L al (Ev xs L al d) 166 0 [(0, .ref 0), (1, .int x1)] [] (m, S) (some (.int r0)) (m, S)
  refine rsn 1 (t := (1, [(0, .ref 0), (1, .int x1)], [.ref 0])) rfl ?_
  refine pgI rfl rfl rfl (hSh.k 0 rfl _) ?_
  show RN xs L al (Ev xs L al d) 166 4 [(0, .ref 0), (1, .int x1)] [.int ((mI m 0 3))] (m, S) (some (.int r0)) (m, S)
  refine rsn 1 (t := (5, [(0, .ref 0), (1, .int x1)], [.int 3, .int ((mI m 0 3))])) rfl ?_
  by_cases c1 : ((mI m 0 3)) = 3
  · rw [if_pos c1] at h
    refine rjf (a := (22, [(0, .ref 0), (1, .int x1)], [])) (b := (8, [(0, .ref 0), (1, .int x1)], [])) rfl rfl (fun q => q c1) ?_
    refine rsn 1 (t := (9, [(0, .ref 0), (1, .int x1)], [.ref 0])) rfl ?_
    refine pgJ rfl rfl rfl (hSh.k 0 rfl _) ?_
    show RN xs L al (Ev xs L al d) 166 12 [(0, .ref 0), (1, .int x1)] [.long ((mJ m 0 5))] (m, S) (some (.int r0)) (m, S)
    refine rsn 3 (t := (15, [(0, .ref 0), (1, .int x1)], [.int ((lg_cmp ((mJ m 0 5)) x1.toInt64))])) rfl ?_
    by_cases c2 : ((mJ m 0 5)) = x1.toInt64
    · rw [if_pos c2] at h
      refine rjf (a := (22, [(0, .ref 0), (1, .int x1)], [])) (b := (18, [(0, .ref 0), (1, .int x1)], [])) rfl rfl (fun q => q (lgc_eq.mpr c2)) ?_
      refine rsn 2 (t := (23, [(0, .ref 0), (1, .int x1)], [.int 1])) rfl ?_
      cases h
      exact rret rfl ⟨rfl, rfl, _, _, rfl, rfl, rfl, rfl⟩
    · rw [if_neg c2] at h
      refine rjt (a := (22, [(0, .ref 0), (1, .int x1)], [])) (b := (18, [(0, .ref 0), (1, .int x1)], [])) rfl rfl (fun q => c2 (lgc_eq.mp q)) ?_
      refine rsn 1 (t := (23, [(0, .ref 0), (1, .int x1)], [.int 0])) rfl ?_
      cases h
      exact rret rfl ⟨rfl, rfl, _, _, rfl, rfl, rfl, rfl⟩
  · rw [if_neg c1] at h
    refine rjt (a := (22, [(0, .ref 0), (1, .int x1)], [])) (b := (8, [(0, .ref 0), (1, .int x1)], [])) rfl rfl c1 ?_
    refine rsn 1 (t := (23, [(0, .ref 0), (1, .int x1)], [.int 0])) rfl ?_
    cases h
    exact rret rfl ⟨rfl, rfl, _, _, rfl, rfl, rfl, rfl⟩
def f_Mo_closes (N : Nat) (m : Mm) : Option (Int32 × Mm) := b1 (f_Mo_isSign N 59 m) fun r1 => (if r1 = 0 then some (0, m) else b3 (f_Mo_next N m) fun m3 => some (1, m3))
set_option maxRecDepth 20000 in
set_option maxHeartbeats 4000000 in
theorem e_Mo_closes {xs : Nat → Int32} {L : Nat} {al : Bool} (N : Nat) {d : Nat} (hd : 3 ≤ d) {S : St} (hSh : ShR S) {m : Mm} {r0 : Int32} {mf : Mm} (h : f_Mo_closes N m = some (r0, mf)) : Ev xs L al d 165 [.ref 0] (m, S) (some (.int r0)) (mf, S) := by
  obtain ⟨d, rfl⟩ : ∃ e, d = e + 1 := ⟨d - 1, by omega⟩
  refine ev_of (by decide) (Nat.le_of_ble_eq_true rfl) ?_
  rw [f_Mo_closes] at h
  show RN xs L al (Ev xs L al d) 165 0 [(0, .ref 0)] [] (m, S) (some (.int r0)) (mf, S)
  refine rsn 2 (t := (3, [(0, .ref 0)], [.int 59, .ref 0])) rfl ?_
  obtain ⟨r1, g1, h⟩ := b1_some h
  refine rcV 166 0 [.int 59] rfl rfl rfl (hSh.k 0 rfl _) (Nat.le_of_ble_eq_true rfl) rfl (e_Mo_isSign N (by omega) hSh g1) ?_
  show RN xs L al (Ev xs L al d) 165 6 [(0, .ref 0)] [.int r1] (m, S) (some (.int r0)) (mf, S)
  by_cases c2 : r1 = 0
  · rw [if_pos c2] at h
    refine rjf (a := (11, [(0, .ref 0)], [])) (b := (9, [(0, .ref 0)], [])) rfl rfl (fun q => q c2) ?_
    refine rsn 1 (t := (10, [(0, .ref 0)], [.int 0])) rfl ?_
    cases h
    exact rret rfl ⟨rfl, rfl, _, _, rfl, rfl, rfl, rfl⟩
  · rw [if_neg c2] at h
    refine rjt (a := (11, [(0, .ref 0)], [])) (b := (9, [(0, .ref 0)], [])) rfl rfl c2 ?_
    refine rsn 1 (t := (12, [(0, .ref 0)], [.ref 0])) rfl ?_
    obtain ⟨m3, g3, h⟩ := b3_some h
    refine rcV 148 0 [] rfl rfl rfl (hSh.k 0 rfl _) (Nat.le_of_ble_eq_true rfl) rfl (e_Mo_next N (by omega) hSh g3) ?_
    show RN xs L al (Ev xs L al d) 165 15 [(0, .ref 0)] [] (m3, S) (some (.int r0)) (mf, S)
    refine rsn 1 (t := (16, [(0, .ref 0)], [.int 1])) rfl ?_
    cases h
    exact rret rfl ⟨rfl, rfl, _, _, rfl, rfl, rfl, rfl⟩
def f_Mo_isName (N : Nat) (m : Mm) : Option (Int32) := (if ((mI m 0 3)) = 1 then (if ((mJ m 0 5)) = 0 then some 0 else b1 (f_Mo_isWord N 0 m) fun r3 => (if r3 = 0 then b1 (f_Mo_isWord N 1 m) fun r5 => (if r5 = 0 then b1 (f_Mo_isWord N 2 m) fun r7 => (if r7 = 0 then b1 (f_Mo_isWord N 3 m) fun r9 => (if r9 = 0 then b1 (f_Mo_isWord N 4 m) fun r11 => (if r11 = 0 then b1 (f_Mo_isWord N 5 m) fun r13 => (if r13 = 0 then b1 (f_Mo_isWord N 6 m) fun r15 => (if r15 = 0 then b1 (f_Mo_isWord N 7 m) fun r17 => (if r17 = 0 then some 1 else some 0) else some 0) else some 0) else some 0) else some 0) else some 0) else some 0) else some 0)) else some 0)
set_option maxRecDepth 20000 in
set_option maxHeartbeats 4000000 in
theorem e_Mo_isName {xs : Nat → Int32} {L : Nat} {al : Bool} (N : Nat) {d : Nat} (hd : 7 ≤ d) {S : St} (hSh : ShR S) {m : Mm} {r0 : Int32} (h : f_Mo_isName N m = some r0) : Ev xs L al d 162 [.ref 0] (m, S) (some (.int r0)) (m, S) := by
  obtain ⟨d, rfl⟩ : ∃ e, d = e + 1 := ⟨d - 1, by omega⟩
  refine ev_of (by decide) (Nat.le_of_ble_eq_true rfl) ?_
  rw [f_Mo_isName] at h
  show RN xs L al (Ev xs L al d) 162 0 [(0, .ref 0)] [] (m, S) (some (.int r0)) (m, S)
  refine rsn 1 (t := (1, [(0, .ref 0)], [.ref 0])) rfl ?_
  refine pgI rfl rfl rfl (hSh.k 0 rfl _) ?_
  show RN xs L al (Ev xs L al d) 162 4 [(0, .ref 0)] [.int ((mI m 0 3))] (m, S) (some (.int r0)) (m, S)
  refine rsn 1 (t := (5, [(0, .ref 0)], [.int 1, .int ((mI m 0 3))])) rfl ?_
  by_cases c1 : ((mI m 0 3)) = 1
  · rw [if_pos c1] at h
    refine rjf (a := (93, [(0, .ref 0)], [])) (b := (8, [(0, .ref 0)], [])) rfl rfl (fun q => q c1) ?_
    refine rsn 1 (t := (9, [(0, .ref 0)], [.ref 0])) rfl ?_
    refine pgJ rfl rfl rfl (hSh.k 0 rfl _) ?_
    show RN xs L al (Ev xs L al d) 162 12 [(0, .ref 0)] [.long ((mJ m 0 5))] (m, S) (some (.int r0)) (m, S)
    refine rsn 2 (t := (14, [(0, .ref 0)], [.int ((lg_cmp ((mJ m 0 5)) 0))])) rfl ?_
    by_cases c2 : ((mJ m 0 5)) = 0
    · rw [if_pos c2] at h
      refine rjt (a := (93, [(0, .ref 0)], [])) (b := (17, [(0, .ref 0)], [])) rfl rfl (lgc_eq.mpr c2) ?_
      refine rsn 1 (t := (94, [(0, .ref 0)], [.int 0])) rfl ?_
      cases h
      exact rret rfl ⟨rfl, rfl, _, _, rfl, rfl, rfl, rfl⟩
    · rw [if_neg c2] at h
      refine rjf (a := (93, [(0, .ref 0)], [])) (b := (17, [(0, .ref 0)], [])) rfl rfl (fun q => c2 (lgc_eq.mp q)) ?_
      refine rsn 1 (t := (18, [(0, .ref 0)], [.ref 0])) rfl ?_
      refine rm (st1 := [.retAddr 0, .ref 0]) rfl ⟨rfl, rfl, 0, rfl, rfl⟩ ?_
      obtain ⟨r3, g3, h⟩ := b1_some h
      refine rcV 152 0 [.retAddr 0] rfl rfl rfl (hSh.k 0 rfl _) (Nat.le_of_ble_eq_true rfl) rfl (e_Mo_isWord N (by omega) hSh (by decide) g3) ?_
      show RN xs L al (Ev xs L al d) 162 23 [(0, .ref 0)] [.int r3] (m, S) (some (.int r0)) (m, S)
      by_cases c4 : r3 = 0
      · rw [if_pos c4] at h
        refine rjf (a := (93, [(0, .ref 0)], [])) (b := (26, [(0, .ref 0)], [])) rfl rfl (fun q => q c4) ?_
        refine rsn 1 (t := (27, [(0, .ref 0)], [.ref 0])) rfl ?_
        refine rm (st1 := [.retAddr 1, .ref 0]) rfl ⟨rfl, rfl, 1, rfl, rfl⟩ ?_
        obtain ⟨r5, g5, h⟩ := b1_some h
        refine rcV 152 0 [.retAddr 1] rfl rfl rfl (hSh.k 0 rfl _) (Nat.le_of_ble_eq_true rfl) rfl (e_Mo_isWord N (by omega) hSh (by decide) g5) ?_
        show RN xs L al (Ev xs L al d) 162 32 [(0, .ref 0)] [.int r5] (m, S) (some (.int r0)) (m, S)
        by_cases c6 : r5 = 0
        · rw [if_pos c6] at h
          refine rjf (a := (93, [(0, .ref 0)], [])) (b := (35, [(0, .ref 0)], [])) rfl rfl (fun q => q c6) ?_
          refine rsn 1 (t := (36, [(0, .ref 0)], [.ref 0])) rfl ?_
          refine rm (st1 := [.retAddr 2, .ref 0]) rfl ⟨rfl, rfl, 2, rfl, rfl⟩ ?_
          obtain ⟨r7, g7, h⟩ := b1_some h
          refine rcV 152 0 [.retAddr 2] rfl rfl rfl (hSh.k 0 rfl _) (Nat.le_of_ble_eq_true rfl) rfl (e_Mo_isWord N (by omega) hSh (by decide) g7) ?_
          show RN xs L al (Ev xs L al d) 162 41 [(0, .ref 0)] [.int r7] (m, S) (some (.int r0)) (m, S)
          by_cases c8 : r7 = 0
          · rw [if_pos c8] at h
            refine rjf (a := (93, [(0, .ref 0)], [])) (b := (44, [(0, .ref 0)], [])) rfl rfl (fun q => q c8) ?_
            refine rsn 1 (t := (45, [(0, .ref 0)], [.ref 0])) rfl ?_
            refine rm (st1 := [.retAddr 3, .ref 0]) rfl ⟨rfl, rfl, 3, rfl, rfl⟩ ?_
            obtain ⟨r9, g9, h⟩ := b1_some h
            refine rcV 152 0 [.retAddr 3] rfl rfl rfl (hSh.k 0 rfl _) (Nat.le_of_ble_eq_true rfl) rfl (e_Mo_isWord N (by omega) hSh (by decide) g9) ?_
            show RN xs L al (Ev xs L al d) 162 50 [(0, .ref 0)] [.int r9] (m, S) (some (.int r0)) (m, S)
            by_cases c10 : r9 = 0
            · rw [if_pos c10] at h
              refine rjf (a := (93, [(0, .ref 0)], [])) (b := (53, [(0, .ref 0)], [])) rfl rfl (fun q => q c10) ?_
              refine rsn 1 (t := (54, [(0, .ref 0)], [.ref 0])) rfl ?_
              refine rm (st1 := [.retAddr 4, .ref 0]) rfl ⟨rfl, rfl, 4, rfl, rfl⟩ ?_
              obtain ⟨r11, g11, h⟩ := b1_some h
              refine rcV 152 0 [.retAddr 4] rfl rfl rfl (hSh.k 0 rfl _) (Nat.le_of_ble_eq_true rfl) rfl (e_Mo_isWord N (by omega) hSh (by decide) g11) ?_
              show RN xs L al (Ev xs L al d) 162 59 [(0, .ref 0)] [.int r11] (m, S) (some (.int r0)) (m, S)
              by_cases c12 : r11 = 0
              · rw [if_pos c12] at h
                refine rjf (a := (93, [(0, .ref 0)], [])) (b := (62, [(0, .ref 0)], [])) rfl rfl (fun q => q c12) ?_
                refine rsn 1 (t := (63, [(0, .ref 0)], [.ref 0])) rfl ?_
                refine rm (st1 := [.retAddr 5, .ref 0]) rfl ⟨rfl, rfl, 5, rfl, rfl⟩ ?_
                obtain ⟨r13, g13, h⟩ := b1_some h
                refine rcV 152 0 [.retAddr 5] rfl rfl rfl (hSh.k 0 rfl _) (Nat.le_of_ble_eq_true rfl) rfl (e_Mo_isWord N (by omega) hSh (by decide) g13) ?_
                show RN xs L al (Ev xs L al d) 162 68 [(0, .ref 0)] [.int r13] (m, S) (some (.int r0)) (m, S)
                by_cases c14 : r13 = 0
                · rw [if_pos c14] at h
                  refine rjf (a := (93, [(0, .ref 0)], [])) (b := (71, [(0, .ref 0)], [])) rfl rfl (fun q => q c14) ?_
                  refine rsn 1 (t := (72, [(0, .ref 0)], [.ref 0])) rfl ?_
                  refine rm (st1 := [.retAddr 6, .ref 0]) rfl ⟨rfl, rfl, 6, rfl, rfl⟩ ?_
                  obtain ⟨r15, g15, h⟩ := b1_some h
                  refine rcV 152 0 [.retAddr 6] rfl rfl rfl (hSh.k 0 rfl _) (Nat.le_of_ble_eq_true rfl) rfl (e_Mo_isWord N (by omega) hSh (by decide) g15) ?_
                  show RN xs L al (Ev xs L al d) 162 77 [(0, .ref 0)] [.int r15] (m, S) (some (.int r0)) (m, S)
                  by_cases c16 : r15 = 0
                  · rw [if_pos c16] at h
                    refine rjf (a := (93, [(0, .ref 0)], [])) (b := (80, [(0, .ref 0)], [])) rfl rfl (fun q => q c16) ?_
                    refine rsn 1 (t := (81, [(0, .ref 0)], [.ref 0])) rfl ?_
                    refine rm (st1 := [.retAddr 7, .ref 0]) rfl ⟨rfl, rfl, 7, rfl, rfl⟩ ?_
                    obtain ⟨r17, g17, h⟩ := b1_some h
                    refine rcV 152 0 [.retAddr 7] rfl rfl rfl (hSh.k 0 rfl _) (Nat.le_of_ble_eq_true rfl) rfl (e_Mo_isWord N (by omega) hSh (by decide) g17) ?_
                    show RN xs L al (Ev xs L al d) 162 86 [(0, .ref 0)] [.int r17] (m, S) (some (.int r0)) (m, S)
                    by_cases c18 : r17 = 0
                    · rw [if_pos c18] at h
                      refine rjf (a := (93, [(0, .ref 0)], [])) (b := (89, [(0, .ref 0)], [])) rfl rfl (fun q => q c18) ?_
                      refine rsn 2 (t := (94, [(0, .ref 0)], [.int 1])) rfl ?_
                      cases h
                      exact rret rfl ⟨rfl, rfl, _, _, rfl, rfl, rfl, rfl⟩
                    · rw [if_neg c18] at h
                      refine rjt (a := (93, [(0, .ref 0)], [])) (b := (89, [(0, .ref 0)], [])) rfl rfl c18 ?_
                      refine rsn 1 (t := (94, [(0, .ref 0)], [.int 0])) rfl ?_
                      cases h
                      exact rret rfl ⟨rfl, rfl, _, _, rfl, rfl, rfl, rfl⟩
                  · rw [if_neg c16] at h
                    refine rjt (a := (93, [(0, .ref 0)], [])) (b := (80, [(0, .ref 0)], [])) rfl rfl c16 ?_
                    refine rsn 1 (t := (94, [(0, .ref 0)], [.int 0])) rfl ?_
                    cases h
                    exact rret rfl ⟨rfl, rfl, _, _, rfl, rfl, rfl, rfl⟩
                · rw [if_neg c14] at h
                  refine rjt (a := (93, [(0, .ref 0)], [])) (b := (71, [(0, .ref 0)], [])) rfl rfl c14 ?_
                  refine rsn 1 (t := (94, [(0, .ref 0)], [.int 0])) rfl ?_
                  cases h
                  exact rret rfl ⟨rfl, rfl, _, _, rfl, rfl, rfl, rfl⟩
              · rw [if_neg c12] at h
                refine rjt (a := (93, [(0, .ref 0)], [])) (b := (62, [(0, .ref 0)], [])) rfl rfl c12 ?_
                refine rsn 1 (t := (94, [(0, .ref 0)], [.int 0])) rfl ?_
                cases h
                exact rret rfl ⟨rfl, rfl, _, _, rfl, rfl, rfl, rfl⟩
            · rw [if_neg c10] at h
              refine rjt (a := (93, [(0, .ref 0)], [])) (b := (53, [(0, .ref 0)], [])) rfl rfl c10 ?_
              refine rsn 1 (t := (94, [(0, .ref 0)], [.int 0])) rfl ?_
              cases h
              exact rret rfl ⟨rfl, rfl, _, _, rfl, rfl, rfl, rfl⟩
          · rw [if_neg c8] at h
            refine rjt (a := (93, [(0, .ref 0)], [])) (b := (44, [(0, .ref 0)], [])) rfl rfl c8 ?_
            refine rsn 1 (t := (94, [(0, .ref 0)], [.int 0])) rfl ?_
            cases h
            exact rret rfl ⟨rfl, rfl, _, _, rfl, rfl, rfl, rfl⟩
        · rw [if_neg c6] at h
          refine rjt (a := (93, [(0, .ref 0)], [])) (b := (35, [(0, .ref 0)], [])) rfl rfl c6 ?_
          refine rsn 1 (t := (94, [(0, .ref 0)], [.int 0])) rfl ?_
          cases h
          exact rret rfl ⟨rfl, rfl, _, _, rfl, rfl, rfl, rfl⟩
      · rw [if_neg c4] at h
        refine rjt (a := (93, [(0, .ref 0)], [])) (b := (26, [(0, .ref 0)], [])) rfl rfl c4 ?_
        refine rsn 1 (t := (94, [(0, .ref 0)], [.int 0])) rfl ?_
        cases h
        exact rret rfl ⟨rfl, rfl, _, _, rfl, rfl, rfl, rfl⟩
  · rw [if_neg c1] at h
    refine rjt (a := (93, [(0, .ref 0)], [])) (b := (8, [(0, .ref 0)], [])) rfl rfl c1 ?_
    refine rsn 1 (t := (94, [(0, .ref 0)], [.int 0])) rfl ?_
    cases h
    exact rret rfl ⟨rfl, rfl, _, _, rfl, rfl, rfl, rfl⟩
def f_Mo_named_L2 (N : Nat) (x1 : Int64) (m : Mm) (k2 : Int32 → Option (Int32)) : Nat → Int32 → Option (Int32)
  | 0, _ => none
  | n2 + 1, x3 => f_Mo_named_L2 N x1 m k2 n2 x3
def f_Mo_named (N : Nat) (x1 : Int64) (m : Mm) : Option (Int32) := f_Mo_named_L2 N x1 m (fun (z1_3 : Int32) => some ((-1))) N 0
set_option maxRecDepth 20000 in
set_option maxHeartbeats 4000000 in
theorem e_Mo_named {xs : Nat → Int32} {L : Nat} {al : Bool} (N : Nat) {d : Nat} (hd : 1 ≤ d) {S : St} (hSh : ShR S) {x1 : Int64} {m : Mm} {r0 : Int32} (h : f_Mo_named N x1 m = some r0) : Ev xs L al d 163 [.ref 0, .long x1] (m, S) (some (.int r0)) (m, S) := by
  obtain ⟨d, rfl⟩ : ∃ e, d = e + 1 := ⟨d - 1, by omega⟩
  refine ev_of (by decide) (Nat.le_of_ble_eq_true rfl) ?_
  rw [f_Mo_named] at h
  show RN xs L al (Ev xs L al d) 163 0 [(0, .ref 0), (1, .long x1)] [] (m, S) (some (.int r0)) (m, S)
  refine rsn 2 (t := (2, [(3, .int 0), (0, .ref 0), (1, .long x1)], [])) rfl ?_
  have ex2 : ∀ (z1_3 : Int32), (some ((-1))) = some r0 → RN xs L al (Ev xs L al d) 163 29 [] [] (m, S) (some (.int r0)) (m, S) := by
    intro z1_3 h
    try dsimp only at h
    refine rsn 1 (t := (30, [], [.int ((-1))])) rfl ?_
    cases h
    exact rret rfl ⟨rfl, rfl, _, _, rfl, rfl, rfl, rfl⟩
  have lp2 : ∀ (n : Nat) (y2_3 : Int32), (f_Mo_named_L2 N x1 m (fun (z1_3 : Int32) => some ((-1))) n y2_3) = some r0 → RN xs L al (Ev xs L al d) 163 2 [(0, .ref 0), (1, .long x1), (3, .int y2_3)] [] (m, S) (some (.int r0)) (m, S) := by
    intro n
    induction n with
    | zero => intro y2_3 h; exact absurd h (by simp [f_Mo_named_L2])
    | succ n2 ih2 =>
      intro y2_3 h
      try dsimp only at h
      rw [f_Mo_named_L2] at h
      try dsimp only at h
      exact rsub [(0, .ref 0), (1, .long x1), (3, .int y2_3)] ⟨rfl, ⟨rfl, ⟨rfl, trivial⟩⟩⟩ ⟨rfl, ⟨rfl, ⟨rfl, trivial⟩⟩⟩ (ih2 y2_3 h)
  exact rsub [(0, .ref 0), (1, .long x1), (3, .int 0)] ⟨rfl, ⟨rfl, ⟨rfl, trivial⟩⟩⟩ ⟨rfl, ⟨rfl, ⟨rfl, trivial⟩⟩⟩ (lp2 N 0 h)
def f_Mo_isNumber (N : Nat) (x1 : Int32) (x2 : Int32) (m : Mm) : Option (Int32) := (if ((mI m 0 3)) = 2 then (if ((mJ m 0 5)) < x1.toInt64 then some 0 else (if x2.toInt64 < ((mJ m 0 5)) then some 0 else some 1)) else some 0)
set_option maxRecDepth 20000 in
set_option maxHeartbeats 4000000 in
theorem e_Mo_isNumber {xs : Nat → Int32} {L : Nat} {al : Bool} (N : Nat) {d : Nat} (hd : 1 ≤ d) {S : St} (hSh : ShR S) {x1 : Int32} {x2 : Int32} {m : Mm} {r0 : Int32} (h : f_Mo_isNumber N x1 x2 m = some r0) : Ev xs L al d 164 [.ref 0, .int x1, .int x2] (m, S) (some (.int r0)) (m, S) := by
  obtain ⟨d, rfl⟩ : ∃ e, d = e + 1 := ⟨d - 1, by omega⟩
  refine ev_of (by decide) (Nat.le_of_ble_eq_true rfl) ?_
  rw [f_Mo_isNumber] at h
  show RN xs L al (Ev xs L al d) 164 0 [(0, .ref 0), (1, .int x1), (2, .int x2)] [] (m, S) (some (.int r0)) (m, S)
  refine rsn 1 (t := (1, [(0, .ref 0), (1, .int x1), (2, .int x2)], [.ref 0])) rfl ?_
  refine pgI rfl rfl rfl (hSh.k 0 rfl _) ?_
  show RN xs L al (Ev xs L al d) 164 4 [(0, .ref 0), (1, .int x1), (2, .int x2)] [.int ((mI m 0 3))] (m, S) (some (.int r0)) (m, S)
  refine rsn 1 (t := (5, [(0, .ref 0), (1, .int x1), (2, .int x2)], [.int 2, .int ((mI m 0 3))])) rfl ?_
  by_cases c1 : ((mI m 0 3)) = 2
  · rw [if_pos c1] at h
    refine rjf (a := (32, [(0, .ref 0), (1, .int x1), (2, .int x2)], [])) (b := (8, [(0, .ref 0), (1, .int x1), (2, .int x2)], [])) rfl rfl (fun q => q c1) ?_
    refine rsn 1 (t := (9, [(0, .ref 0), (1, .int x1), (2, .int x2)], [.ref 0])) rfl ?_
    refine pgJ rfl rfl rfl (hSh.k 0 rfl _) ?_
    show RN xs L al (Ev xs L al d) 164 12 [(0, .ref 0), (1, .int x1), (2, .int x2)] [.long ((mJ m 0 5))] (m, S) (some (.int r0)) (m, S)
    refine rsn 3 (t := (15, [(0, .ref 0), (1, .int x1), (2, .int x2)], [.int ((lg_cmp ((mJ m 0 5)) x1.toInt64))])) rfl ?_
    by_cases c2 : ((mJ m 0 5)) < x1.toInt64
    · rw [if_pos c2] at h
      refine rjt (a := (32, [(0, .ref 0), (1, .int x1), (2, .int x2)], [])) (b := (18, [(0, .ref 0), (1, .int x1), (2, .int x2)], [])) rfl rfl (lgc_lt.mpr c2) ?_
      refine rsn 1 (t := (33, [(0, .ref 0), (1, .int x1), (2, .int x2)], [.int 0])) rfl ?_
      cases h
      exact rret rfl ⟨rfl, rfl, _, _, rfl, rfl, rfl, rfl⟩
    · rw [if_neg c2] at h
      refine rjf (a := (32, [(0, .ref 0), (1, .int x1), (2, .int x2)], [])) (b := (18, [(0, .ref 0), (1, .int x1), (2, .int x2)], [])) rfl rfl (fun q => c2 (lgc_lt.mp q)) ?_
      refine rsn 1 (t := (19, [(0, .ref 0), (1, .int x1), (2, .int x2)], [.ref 0])) rfl ?_
      refine pgJ rfl rfl rfl (hSh.k 0 rfl _) ?_
      show RN xs L al (Ev xs L al d) 164 22 [(0, .ref 0), (1, .int x1), (2, .int x2)] [.long ((mJ m 0 5))] (m, S) (some (.int r0)) (m, S)
      refine rsn 3 (t := (25, [(0, .ref 0), (1, .int x1), (2, .int x2)], [.int ((lg_cmp ((mJ m 0 5)) x2.toInt64))])) rfl ?_
      by_cases c3 : x2.toInt64 < ((mJ m 0 5))
      · rw [if_pos c3] at h
        refine rjt (a := (32, [(0, .ref 0), (1, .int x1), (2, .int x2)], [])) (b := (28, [(0, .ref 0), (1, .int x1), (2, .int x2)], [])) rfl rfl (lgc_gt.mpr c3) ?_
        refine rsn 1 (t := (33, [(0, .ref 0), (1, .int x1), (2, .int x2)], [.int 0])) rfl ?_
        cases h
        exact rret rfl ⟨rfl, rfl, _, _, rfl, rfl, rfl, rfl⟩
      · rw [if_neg c3] at h
        refine rjf (a := (32, [(0, .ref 0), (1, .int x1), (2, .int x2)], [])) (b := (28, [(0, .ref 0), (1, .int x1), (2, .int x2)], [])) rfl rfl (fun q => c3 (lgc_gt.mp q)) ?_
        refine rsn 2 (t := (33, [(0, .ref 0), (1, .int x1), (2, .int x2)], [.int 1])) rfl ?_
        cases h
        exact rret rfl ⟨rfl, rfl, _, _, rfl, rfl, rfl, rfl⟩
  · rw [if_neg c1] at h
    refine rjt (a := (32, [(0, .ref 0), (1, .int x1), (2, .int x2)], [])) (b := (8, [(0, .ref 0), (1, .int x1), (2, .int x2)], [])) rfl rfl c1 ?_
    refine rsn 1 (t := (33, [(0, .ref 0), (1, .int x1), (2, .int x2)], [.int 0])) rfl ?_
    cases h
    exact rret rfl ⟨rfl, rfl, _, _, rfl, rfl, rfl, rfl⟩
def f_Mo_heirLine_L64 (N : Nat) (k64 : Int32 → Mm → Option (Int32 × Mm)) : Nat → Int32 → Mm → Option (Int32 × Mm)
  | 0, _, _ => none
  | n64 + 1, x2, m => f_Mo_heirLine_L64 N k64 n64 x2 m
def f_Mo_heirLine (N : Nat) (x1 : Int32) (m : Mm) : Option (Int32 × Mm) := (if ((mI m 0 6)) = 3 then some (0, m) else b3 (f_Mo_next N m) fun m2 => b1 (f_Mo_isName N m2) fun r3 => (if r3 = 0 then some (0, m2) else b1 (f_Mo_named N ((mJ m2 0 5)) m2) fun r5 => (if r5 = ((-1)) then ck (ix ((mI m2 0 6)) 3) (ck (ix ((mI m2 0 6)) 3) (b3 (f_Mo_next N (vX (vY m2 2 (((mI m2 0 6)).toNatClampNeg) ((mJ m2 0 5))) 3 (((mI m2 0 6)).toNatClampNeg) ((vp_nar .boolean x1)))) fun m9 => f_Mo_heirLine_L64 N (fun (z10_2 : Int32) (m10 : Mm) => b2 (f_Mo_closes N (vI m10 0 6 ((((mI m10 0 6)) + 1)))) fun r11 m11 => ck (r11 = 0 ∨ r11 = 1) (some (r11, m11))) N 0 m9)) else some (0, m2))))
set_option maxRecDepth 20000 in
set_option maxHeartbeats 4000000 in
theorem e_Mo_heirLine {xs : Nat → Int32} {L : Nat} {al : Bool} (N : Nat) {d : Nat} (hd : 8 ≤ d) {S : St} (hSh : ShR S) {x1 : Int32} {m : Mm} {r0 : Int32} {mf : Mm} (h : f_Mo_heirLine N x1 m = some (r0, mf)) : Ev xs L al d 161 [.ref 0, .int x1] (m, S) (some (.int r0)) (mf, S) := by
  obtain ⟨d, rfl⟩ : ∃ e, d = e + 1 := ⟨d - 1, by omega⟩
  refine ev_of (by decide) (Nat.le_of_ble_eq_true rfl) ?_
  rw [f_Mo_heirLine] at h
  show RN xs L al (Ev xs L al d) 161 0 [(0, .ref 0), (1, .int x1)] [] (m, S) (some (.int r0)) (mf, S)
  refine rsn 1 (t := (1, [(0, .ref 0), (1, .int x1)], [.ref 0])) rfl ?_
  refine pgI rfl rfl rfl (hSh.k 0 rfl _) ?_
  show RN xs L al (Ev xs L al d) 161 4 [(0, .ref 0), (1, .int x1)] [.int ((mI m 0 6))] (m, S) (some (.int r0)) (mf, S)
  refine rsn 1 (t := (5, [(0, .ref 0), (1, .int x1)], [.int 3, .int ((mI m 0 6))])) rfl ?_
  by_cases c1 : ((mI m 0 6)) = 3
  · rw [if_pos c1] at h
    refine rjf (a := (10, [(0, .ref 0), (1, .int x1)], [])) (b := (8, [(0, .ref 0), (1, .int x1)], [])) rfl rfl (fun q => q c1) ?_
    refine rsn 1 (t := (9, [(0, .ref 0), (1, .int x1)], [.int 0])) rfl ?_
    cases h
    exact rret rfl ⟨rfl, rfl, _, _, rfl, rfl, rfl, rfl⟩
  · rw [if_neg c1] at h
    refine rjt (a := (10, [(0, .ref 0), (1, .int x1)], [])) (b := (8, [(0, .ref 0), (1, .int x1)], [])) rfl rfl c1 ?_
    refine rsn 1 (t := (11, [(0, .ref 0), (1, .int x1)], [.ref 0])) rfl ?_
    obtain ⟨m2, g2, h⟩ := b3_some h
    refine rcV 148 0 [] rfl rfl rfl (hSh.k 0 rfl _) (Nat.le_of_ble_eq_true rfl) rfl (e_Mo_next N (by omega) hSh g2) ?_
    show RN xs L al (Ev xs L al d) 161 14 [(0, .ref 0), (1, .int x1)] [] (m2, S) (some (.int r0)) (mf, S)
    refine rsn 1 (t := (15, [(0, .ref 0), (1, .int x1)], [.ref 0])) rfl ?_
    obtain ⟨r3, g3, h⟩ := b1_some h
    refine rcV 162 0 [] rfl rfl rfl (hSh.k 0 rfl _) (Nat.le_of_ble_eq_true rfl) rfl (e_Mo_isName N (by omega) hSh g3) ?_
    show RN xs L al (Ev xs L al d) 161 18 [(0, .ref 0), (1, .int x1)] [.int r3] (m2, S) (some (.int r0)) (mf, S)
    by_cases c4 : r3 = 0
    · rw [if_pos c4] at h
      refine rjt (a := (33, [(0, .ref 0), (1, .int x1)], [])) (b := (21, [(0, .ref 0), (1, .int x1)], [])) rfl rfl c4 ?_
      refine rsn 1 (t := (34, [(0, .ref 0), (1, .int x1)], [.int 0])) rfl ?_
      cases h
      exact rret rfl ⟨rfl, rfl, _, _, rfl, rfl, rfl, rfl⟩
    · rw [if_neg c4] at h
      refine rjf (a := (33, [(0, .ref 0), (1, .int x1)], [])) (b := (21, [(0, .ref 0), (1, .int x1)], [])) rfl rfl c4 ?_
      refine rsn 2 (t := (23, [(0, .ref 0), (1, .int x1)], [.ref 0, .ref 0])) rfl ?_
      refine pgJ rfl rfl rfl (hSh.k 0 rfl _) ?_
      show RN xs L al (Ev xs L al d) 161 26 [(0, .ref 0), (1, .int x1)] [.long ((mJ m2 0 5)), .ref 0] (m2, S) (some (.int r0)) (mf, S)
      obtain ⟨r5, g5, h⟩ := b1_some h
      refine rcV 163 0 [.long ((mJ m2 0 5))] rfl rfl rfl (hSh.k 0 rfl _) (Nat.le_of_ble_eq_true rfl) rfl (e_Mo_named N (by omega) hSh g5) ?_
      show RN xs L al (Ev xs L al d) 161 29 [(0, .ref 0), (1, .int x1)] [.int r5] (m2, S) (some (.int r0)) (mf, S)
      refine rsn 1 (t := (30, [(0, .ref 0), (1, .int x1)], [.int ((-1)), .int r5])) rfl ?_
      by_cases c6 : r5 = ((-1))
      · rw [if_pos c6] at h
        refine rjt (a := (35, [(0, .ref 0), (1, .int x1)], [])) (b := (33, [(0, .ref 0), (1, .int x1)], [])) rfl rfl c6 ?_
        refine rsn 1 (t := (36, [(0, .ref 0), (1, .int x1)], [.ref 0])) rfl ?_
        refine rgR rfl rfl rfl (hSh.k 0 rfl _) (hSh.r 1 rfl _) ?_
        refine rsn 1 (t := (40, [(0, .ref 0), (1, .int x1)], [.ref 0, .ref 2])) rfl ?_
        refine pgI rfl rfl rfl (hSh.k 0 rfl _) ?_
        show RN xs L al (Ev xs L al d) 161 43 [(0, .ref 0), (1, .int x1)] [.int ((mI m2 0 6)), .ref 2] (m2, S) (some (.int r0)) (mf, S)
        refine rsn 1 (t := (44, [(0, .ref 0), (1, .int x1)], [.ref 0, .int ((mI m2 0 6)), .ref 2])) rfl ?_
        refine pgJ rfl rfl rfl (hSh.k 0 rfl _) ?_
        show RN xs L al (Ev xs L al d) 161 47 [(0, .ref 0), (1, .int x1)] [.long ((mJ m2 0 5)), .int ((mI m2 0 6)), .ref 2] (m2, S) (some (.int r0)) (mf, S)
        obtain ⟨c7, h⟩ := ck_some h
        refine psJ rfl (hSh.k 2 rfl _) (hSh.l 1 rfl _) c7 ?_
        refine rsn 1 (t := (49, [(0, .ref 0), (1, .int x1)], [.ref 0])) rfl ?_
        refine rgR rfl rfl rfl (hSh.k 0 rfl _) (hSh.r 2 rfl _) ?_
        refine rsn 1 (t := (53, [(0, .ref 0), (1, .int x1)], [.ref 0, .ref 3])) rfl ?_
        refine pgI rfl rfl rfl (hSh.k 0 rfl _) ?_
        show RN xs L al (Ev xs L al d) 161 56 [(0, .ref 0), (1, .int x1)] [.int ((mI m2 0 6)), .ref 3] ((vY m2 2 (((mI m2 0 6)).toNatClampNeg) ((mJ m2 0 5))), S) (some (.int r0)) (mf, S)
        refine rsn 1 (t := (57, [(0, .ref 0), (1, .int x1)], [.int x1, .int ((mI m2 0 6)), .ref 3])) rfl ?_
        obtain ⟨c8, h⟩ := ck_some h
        refine psZ rfl (hSh.k 3 rfl _) (hSh.l 2 rfl _) c8 ?_
        refine rsn 1 (t := (59, [(0, .ref 0), (1, .int x1)], [.ref 0])) rfl ?_
        obtain ⟨m9, g9, h⟩ := b3_some h
        refine rcV 148 0 [] rfl rfl rfl (hSh.k 0 rfl _) (Nat.le_of_ble_eq_true rfl) rfl (e_Mo_next N (by omega) hSh g9) ?_
        show RN xs L al (Ev xs L al d) 161 62 [(0, .ref 0), (1, .int x1)] [] (m9, S) (some (.int r0)) (mf, S)
        refine rsn 2 (t := (64, [(2, .int 0), (0, .ref 0), (1, .int x1)], [])) rfl ?_
        have ex64 : ∀ (z10_2 : Int32) (m10 : Mm), (b2 (f_Mo_closes N (vI m10 0 6 ((((mI m10 0 6)) + 1)))) fun r11 m11 => ck (r11 = 0 ∨ r11 = 1) (some (r11, m11))) = some (r0, mf) → RN xs L al (Ev xs L al d) 161 109 [(0, .ref 0)] [] (m10, S) (some (.int r0)) (mf, S) := by
          intro z10_2 m10 h
          try dsimp only at h
          refine rsn 2 (t := (111, [(0, .ref 0)], [.ref 0, .ref 0])) rfl ?_
          refine pgI rfl rfl rfl (hSh.k 0 rfl _) ?_
          show RN xs L al (Ev xs L al d) 161 114 [(0, .ref 0)] [.int ((mI m10 0 6)), .ref 0] (m10, S) (some (.int r0)) (mf, S)
          refine rsn 2 (t := (116, [(0, .ref 0)], [.int ((((mI m10 0 6)) + 1)), .ref 0])) rfl ?_
          refine ppI rfl rfl rfl rfl (hSh.k 0 rfl _) ?_
          refine rsn 1 (t := (120, [(0, .ref 0)], [.ref 0])) rfl ?_
          obtain ⟨r11, m11, g11, h⟩ := b2_some h
          refine rcV 165 0 [] rfl rfl rfl (hSh.k 0 rfl _) (Nat.le_of_ble_eq_true rfl) rfl (e_Mo_closes N (by omega) hSh g11) ?_
          show RN xs L al (Ev xs L al d) 161 123 [(0, .ref 0)] [.int r11] (m11, S) (some (.int r0)) (mf, S)
          obtain ⟨c12, h⟩ := ck_some h
          cases h
          exact rret rfl ⟨rfl, rfl, _, _, rfl, rfl, rfl, nz_of c12⟩
        have lp64 : ∀ (n : Nat) (y13_2 : Int32) (m13 : Mm), (f_Mo_heirLine_L64 N (fun (z10_2 : Int32) (m10 : Mm) => b2 (f_Mo_closes N (vI m10 0 6 ((((mI m10 0 6)) + 1)))) fun r11 m11 => ck (r11 = 0 ∨ r11 = 1) (some (r11, m11))) n y13_2 m13) = some (r0, mf) → RN xs L al (Ev xs L al d) 161 64 [(0, .ref 0), (2, .int y13_2)] [] (m13, S) (some (.int r0)) (mf, S) := by
          intro n
          induction n with
          | zero => intro y13_2 m13 h; exact absurd h (by simp [f_Mo_heirLine_L64])
          | succ n64 ih64 =>
            intro y13_2 m13 h
            try dsimp only at h
            rw [f_Mo_heirLine_L64] at h
            try dsimp only at h
            exact rsub [(0, .ref 0), (2, .int y13_2)] ⟨rfl, ⟨rfl, trivial⟩⟩ ⟨rfl, ⟨rfl, trivial⟩⟩ (ih64 y13_2 m13 h)
        exact rsub [(0, .ref 0), (2, .int 0)] ⟨rfl, ⟨rfl, trivial⟩⟩ ⟨rfl, ⟨rfl, trivial⟩⟩ (lp64 N 0 m9 h)
      · rw [if_neg c6] at h
        refine rjf (a := (35, [(0, .ref 0), (1, .int x1)], [])) (b := (33, [(0, .ref 0), (1, .int x1)], [])) rfl rfl c6 ?_
        refine rsn 1 (t := (34, [(0, .ref 0), (1, .int x1)], [.int 0])) rfl ?_
        cases h
        exact rret rfl ⟨rfl, rfl, _, _, rfl, rfl, rfl, rfl⟩
def f_Mo_altHere (N : Nat) (m : Mm) : Option (Int32 × Mm) := ck (ix ((mI m 0 10)) 6) (b1 (f_Mo_isNumber N 1 ((12 - ((mI m 0 30)))) m) fun r2 => (if r2 = 0 then some (0, m) else ck (ix ((3 * ((((3 * ((mI m 0 10)))) + ((mX m 5 (((mI m 0 10)).toNatClampNeg))))))) 54) (b3 (f_Mo_next N (vI (vX m 6 (((3 * ((((3 * ((mI m 0 10)))) + ((mX m 5 (((mI m 0 10)).toNatClampNeg))))))).toNatClampNeg) (((mJ m 0 5)).toInt32)) 0 30 ((((mI m 0 30)) + (((mJ m 0 5)).toInt32))))) fun m5 => ck (ix ((((3 * ((((3 * ((mI m 0 10)))) + ((mX m 5 (((mI m 0 10)).toNatClampNeg))))))) + 2)) 54) (b1 (f_Mo_isWord N 5 (vX m5 6 (((((3 * ((((3 * ((mI m 0 10)))) + ((mX m 5 (((mI m 0 10)).toNatClampNeg))))))) + 2)).toNatClampNeg) ((-1)))) fun r7 => (jn (fun (m8 : Mm) => ck (ix ((mI m8 0 10)) 6) (ck (ix ((mI m8 0 10)) 6) (b3 (f_Mo_next N (vX m8 5 (((mI m8 0 10)).toNatClampNeg) ((((mX m8 5 (((mI m8 0 10)).toNatClampNeg))) + 1)))) fun m11 => some (1, m11)))) (fun j213 => if r7 = 0 then b1 (f_Mo_isWord N 3 (vX m5 6 (((((3 * ((((3 * ((mI m 0 10)))) + ((mX m 5 (((mI m 0 10)).toNatClampNeg))))))) + 2)).toNatClampNeg) ((-1)))) fun r13 => (if r13 = 0 then b1 (f_Mo_isWord N 4 (vX m5 6 (((((3 * ((((3 * ((mI m 0 10)))) + ((mX m 5 (((mI m 0 10)).toNatClampNeg))))))) + 2)).toNatClampNeg) ((-1)))) fun r15 => (if r15 = 0 then some (0, (vX m5 6 (((((3 * ((((3 * ((mI m 0 10)))) + ((mX m 5 (((mI m 0 10)).toNatClampNeg))))))) + 2)).toNatClampNeg) ((-1)))) else b3 (f_Mo_next N (vX m5 6 (((((3 * ((((3 * ((mI m 0 10)))) + ((mX m 5 (((mI m 0 10)).toNatClampNeg))))))) + 2)).toNatClampNeg) ((-1)))) fun m17 => b1 (f_Mo_isName N m17) fun r18 => (jn (fun (s19 : Int32) => (if s19 = ((-1)) then some (0, m17) else ck (ix s19 3) ((if ((mX m17 3 s19.toNatClampNeg)) = 0 then some (0, m17) else ck (ix ((((3 * ((((3 * ((mI m 0 10)))) + ((mX m 5 (((mI m 0 10)).toNatClampNeg))))))) + 1)) 54) (ck (ix ((((3 * ((((3 * ((mI m 0 10)))) + ((mX m 5 (((mI m 0 10)).toNatClampNeg))))))) + 2)) 54) (j213 ((vX (vX m17 6 (((((3 * ((((3 * ((mI m 0 10)))) + ((mX m 5 (((mI m 0 10)).toNatClampNeg))))))) + 1)).toNatClampNeg) 1) 6 (((((3 * ((((3 * ((mI m 0 10)))) + ((mX m 5 (((mI m 0 10)).toNatClampNeg))))))) + 2)).toNatClampNeg) s19)))))))) (fun j178 => if r18 = 0 then j178 ((-1)) else b1 (f_Mo_named N ((mJ m17 0 5)) m17) fun r26 => j178 r26))) else b3 (f_Mo_next N (vX m5 6 (((((3 * ((((3 * ((mI m 0 10)))) + ((mX m 5 (((mI m 0 10)).toNatClampNeg))))))) + 2)).toNatClampNeg) ((-1)))) fun m27 => b1 (f_Mo_isNumber N 0 2 m27) fun r28 => (if r28 = 0 then some (0, m27) else ck (ix ((((3 * ((((3 * ((mI m 0 10)))) + ((mX m 5 (((mI m 0 10)).toNatClampNeg))))))) + 1)) 54) (ck (ix ((((3 * ((((3 * ((mI m 0 10)))) + ((mX m 5 (((mI m 0 10)).toNatClampNeg))))))) + 2)) 54) (j213 ((vX (vX m27 6 (((((3 * ((((3 * ((mI m 0 10)))) + ((mX m 5 (((mI m 0 10)).toNatClampNeg))))))) + 1)).toNatClampNeg) 0) 6 (((((3 * ((((3 * ((mI m 0 10)))) + ((mX m 5 (((mI m 0 10)).toNatClampNeg))))))) + 2)).toNatClampNeg) (((mJ m27 0 5)).toInt32))))))) else ck (ix ((((3 * ((((3 * ((mI m 0 10)))) + ((mX m 5 (((mI m 0 10)).toNatClampNeg))))))) + 1)) 54) (j213 ((vX (vX m5 6 (((((3 * ((((3 * ((mI m 0 10)))) + ((mX m 5 (((mI m 0 10)).toNatClampNeg))))))) + 2)).toNatClampNeg) ((-1))) 6 (((((3 * ((((3 * ((mI m 0 10)))) + ((mX m 5 (((mI m 0 10)).toNatClampNeg))))))) + 1)).toNatClampNeg) 2)))))))))
set_option maxRecDepth 20000 in
set_option maxHeartbeats 4000000 in
theorem e_Mo_altHere {xs : Nat → Int32} {L : Nat} {al : Bool} (N : Nat) {d : Nat} (hd : 8 ≤ d) {S : St} (hSh : ShR S) {m : Mm} {r0 : Int32} {mf : Mm} (h : f_Mo_altHere N m = some (r0, mf)) : Ev xs L al d 168 [.ref 0] (m, S) (some (.int r0)) (mf, S) := by
  obtain ⟨d, rfl⟩ : ∃ e, d = e + 1 := ⟨d - 1, by omega⟩
  refine ev_of (by decide) (Nat.le_of_ble_eq_true rfl) ?_
  rw [f_Mo_altHere] at h
  show RN xs L al (Ev xs L al d) 168 0 [(0, .ref 0)] [] (m, S) (some (.int r0)) (mf, S)
  refine rsn 3 (t := (3, [(0, .ref 0)], [.ref 0, .int 3, .int 3])) rfl ?_
  refine pgI rfl rfl rfl (hSh.k 0 rfl _) ?_
  show RN xs L al (Ev xs L al d) 168 6 [(0, .ref 0)] [.int ((mI m 0 10)), .int 3, .int 3] (m, S) (some (.int r0)) (mf, S)
  refine rsn 2 (t := (8, [(0, .ref 0)], [.ref 0, .int ((3 * ((mI m 0 10)))), .int 3])) rfl ?_
  refine rgR rfl rfl rfl (hSh.k 0 rfl _) (hSh.r 4 rfl _) ?_
  refine rsn 1 (t := (12, [(0, .ref 0)], [.ref 0, .ref 5, .int ((3 * ((mI m 0 10)))), .int 3])) rfl ?_
  refine pgI rfl rfl rfl (hSh.k 0 rfl _) ?_
  show RN xs L al (Ev xs L al d) 168 15 [(0, .ref 0)] [.int ((mI m 0 10)), .ref 5, .int ((3 * ((mI m 0 10)))), .int 3] (m, S) (some (.int r0)) (mf, S)
  obtain ⟨c1, h⟩ := ck_some h
  refine pxI rfl (hSh.k 5 rfl _) (hSh.l 4 rfl _) c1 ?_
  show RN xs L al (Ev xs L al d) 168 16 [(0, .ref 0)] [.int ((mX m 5 (((mI m 0 10)).toNatClampNeg))), .int ((3 * ((mI m 0 10)))), .int 3] (m, S) (some (.int r0)) (mf, S)
  refine rsn 7 (t := (24, [(1, .int ((3 * ((((3 * ((mI m 0 10)))) + ((mX m 5 (((mI m 0 10)).toNatClampNeg)))))))), (0, .ref 0)], [.ref 0, .int 12, .int 1, .ref 0])) rfl ?_
  refine pgI rfl rfl rfl (hSh.k 0 rfl _) ?_
  show RN xs L al (Ev xs L al d) 168 27 [(1, .int ((3 * ((((3 * ((mI m 0 10)))) + ((mX m 5 (((mI m 0 10)).toNatClampNeg)))))))), (0, .ref 0)] [.int ((mI m 0 30)), .int 12, .int 1, .ref 0] (m, S) (some (.int r0)) (mf, S)
  refine rsn 1 (t := (28, [(1, .int ((3 * ((((3 * ((mI m 0 10)))) + ((mX m 5 (((mI m 0 10)).toNatClampNeg)))))))), (0, .ref 0)], [.int ((12 - ((mI m 0 30)))), .int 1, .ref 0])) rfl ?_
  obtain ⟨r2, g2, h⟩ := b1_some h
  refine rcV 164 0 [.int 1, .int ((12 - ((mI m 0 30))))] rfl rfl rfl (hSh.k 0 rfl _) (Nat.le_of_ble_eq_true rfl) rfl (e_Mo_isNumber N (by omega) hSh g2) ?_
  show RN xs L al (Ev xs L al d) 168 31 [(1, .int ((3 * ((((3 * ((mI m 0 10)))) + ((mX m 5 (((mI m 0 10)).toNatClampNeg)))))))), (0, .ref 0)] [.int r2] (m, S) (some (.int r0)) (mf, S)
  by_cases c3 : r2 = 0
  · rw [if_pos c3] at h
    refine rjf (a := (36, [(1, .int ((3 * ((((3 * ((mI m 0 10)))) + ((mX m 5 (((mI m 0 10)).toNatClampNeg)))))))), (0, .ref 0)], [])) (b := (34, [(1, .int ((3 * ((((3 * ((mI m 0 10)))) + ((mX m 5 (((mI m 0 10)).toNatClampNeg)))))))), (0, .ref 0)], [])) rfl rfl (fun q => q c3) ?_
    refine rsn 1 (t := (35, [(1, .int ((3 * ((((3 * ((mI m 0 10)))) + ((mX m 5 (((mI m 0 10)).toNatClampNeg)))))))), (0, .ref 0)], [.int 0])) rfl ?_
    cases h
    exact rret rfl ⟨rfl, rfl, _, _, rfl, rfl, rfl, rfl⟩
  · rw [if_neg c3] at h
    refine rjt (a := (36, [(1, .int ((3 * ((((3 * ((mI m 0 10)))) + ((mX m 5 (((mI m 0 10)).toNatClampNeg)))))))), (0, .ref 0)], [])) (b := (34, [(1, .int ((3 * ((((3 * ((mI m 0 10)))) + ((mX m 5 (((mI m 0 10)).toNatClampNeg)))))))), (0, .ref 0)], [])) rfl rfl c3 ?_
    refine rsn 1 (t := (37, [(1, .int ((3 * ((((3 * ((mI m 0 10)))) + ((mX m 5 (((mI m 0 10)).toNatClampNeg)))))))), (0, .ref 0)], [.ref 0])) rfl ?_
    refine rgR rfl rfl rfl (hSh.k 0 rfl _) (hSh.r 5 rfl _) ?_
    refine rsn 2 (t := (42, [(1, .int ((3 * ((((3 * ((mI m 0 10)))) + ((mX m 5 (((mI m 0 10)).toNatClampNeg)))))))), (0, .ref 0)], [.ref 0, .int ((3 * ((((3 * ((mI m 0 10)))) + ((mX m 5 (((mI m 0 10)).toNatClampNeg))))))), .ref 6])) rfl ?_
    refine pgJ rfl rfl rfl (hSh.k 0 rfl _) ?_
    show RN xs L al (Ev xs L al d) 168 45 [(1, .int ((3 * ((((3 * ((mI m 0 10)))) + ((mX m 5 (((mI m 0 10)).toNatClampNeg)))))))), (0, .ref 0)] [.long ((mJ m 0 5)), .int ((3 * ((((3 * ((mI m 0 10)))) + ((mX m 5 (((mI m 0 10)).toNatClampNeg))))))), .ref 6] (m, S) (some (.int r0)) (mf, S)
    refine rsn 1 (t := (46, [(1, .int ((3 * ((((3 * ((mI m 0 10)))) + ((mX m 5 (((mI m 0 10)).toNatClampNeg)))))))), (0, .ref 0)], [.int (((mJ m 0 5)).toInt32), .int ((3 * ((((3 * ((mI m 0 10)))) + ((mX m 5 (((mI m 0 10)).toNatClampNeg))))))), .ref 6])) rfl ?_
    obtain ⟨c4, h⟩ := ck_some h
    refine psI rfl (hSh.k 6 rfl _) (hSh.l 5 rfl _) c4 ?_
    refine rsn 2 (t := (49, [(1, .int ((3 * ((((3 * ((mI m 0 10)))) + ((mX m 5 (((mI m 0 10)).toNatClampNeg)))))))), (0, .ref 0)], [.ref 0, .ref 0])) rfl ?_
    refine pgI rfl rfl rfl (hSh.k 0 rfl _) ?_
    show RN xs L al (Ev xs L al d) 168 52 [(1, .int ((3 * ((((3 * ((mI m 0 10)))) + ((mX m 5 (((mI m 0 10)).toNatClampNeg)))))))), (0, .ref 0)] [.int ((mI m 0 30)), .ref 0] ((vX m 6 (((3 * ((((3 * ((mI m 0 10)))) + ((mX m 5 (((mI m 0 10)).toNatClampNeg))))))).toNatClampNeg) (((mJ m 0 5)).toInt32)), S) (some (.int r0)) (mf, S)
    refine rsn 1 (t := (53, [(1, .int ((3 * ((((3 * ((mI m 0 10)))) + ((mX m 5 (((mI m 0 10)).toNatClampNeg)))))))), (0, .ref 0)], [.ref 0, .int ((mI m 0 30)), .ref 0])) rfl ?_
    refine pgJ rfl rfl rfl (hSh.k 0 rfl _) ?_
    show RN xs L al (Ev xs L al d) 168 56 [(1, .int ((3 * ((((3 * ((mI m 0 10)))) + ((mX m 5 (((mI m 0 10)).toNatClampNeg)))))))), (0, .ref 0)] [.long ((mJ m 0 5)), .int ((mI m 0 30)), .ref 0] ((vX m 6 (((3 * ((((3 * ((mI m 0 10)))) + ((mX m 5 (((mI m 0 10)).toNatClampNeg))))))).toNatClampNeg) (((mJ m 0 5)).toInt32)), S) (some (.int r0)) (mf, S)
    refine rsn 2 (t := (58, [(1, .int ((3 * ((((3 * ((mI m 0 10)))) + ((mX m 5 (((mI m 0 10)).toNatClampNeg)))))))), (0, .ref 0)], [.int ((((mI m 0 30)) + (((mJ m 0 5)).toInt32))), .ref 0])) rfl ?_
    refine ppI rfl rfl rfl rfl (hSh.k 0 rfl _) ?_
    refine rsn 1 (t := (62, [(1, .int ((3 * ((((3 * ((mI m 0 10)))) + ((mX m 5 (((mI m 0 10)).toNatClampNeg)))))))), (0, .ref 0)], [.ref 0])) rfl ?_
    obtain ⟨m5, g5, h⟩ := b3_some h
    refine rcV 148 0 [] rfl rfl rfl (hSh.k 0 rfl _) (Nat.le_of_ble_eq_true rfl) rfl (e_Mo_next N (by omega) hSh g5) ?_
    show RN xs L al (Ev xs L al d) 168 65 [(1, .int ((3 * ((((3 * ((mI m 0 10)))) + ((mX m 5 (((mI m 0 10)).toNatClampNeg)))))))), (0, .ref 0)] [] (m5, S) (some (.int r0)) (mf, S)
    refine rsn 1 (t := (66, [(1, .int ((3 * ((((3 * ((mI m 0 10)))) + ((mX m 5 (((mI m 0 10)).toNatClampNeg)))))))), (0, .ref 0)], [.ref 0])) rfl ?_
    refine rgR rfl rfl rfl (hSh.k 0 rfl _) (hSh.r 5 rfl _) ?_
    refine rsn 4 (t := (73, [(1, .int ((3 * ((((3 * ((mI m 0 10)))) + ((mX m 5 (((mI m 0 10)).toNatClampNeg)))))))), (0, .ref 0)], [.int ((-1)), .int ((((3 * ((((3 * ((mI m 0 10)))) + ((mX m 5 (((mI m 0 10)).toNatClampNeg))))))) + 2)), .ref 6])) rfl ?_
    obtain ⟨c6, h⟩ := ck_some h
    refine psI rfl (hSh.k 6 rfl _) (hSh.l 5 rfl _) c6 ?_
    refine rsn 1 (t := (75, [(1, .int ((3 * ((((3 * ((mI m 0 10)))) + ((mX m 5 (((mI m 0 10)).toNatClampNeg)))))))), (0, .ref 0)], [.ref 0])) rfl ?_
    refine rm (st1 := [.retAddr 5, .ref 0]) rfl ⟨rfl, rfl, 5, rfl, rfl⟩ ?_
    obtain ⟨r7, g7, h⟩ := b1_some h
    refine rcV 152 0 [.retAddr 5] rfl rfl rfl (hSh.k 0 rfl _) (Nat.le_of_ble_eq_true rfl) rfl (e_Mo_isWord N (by omega) hSh (by decide) g7) ?_
    show RN xs L al (Ev xs L al d) 168 80 [(1, .int ((3 * ((((3 * ((mI m 0 10)))) + ((mX m 5 (((mI m 0 10)).toNatClampNeg)))))))), (0, .ref 0)] [.int r7] ((vX m5 6 (((((3 * ((((3 * ((mI m 0 10)))) + ((mX m 5 (((mI m 0 10)).toNatClampNeg))))))) + 2)).toNatClampNeg) ((-1))), S) (some (.int r0)) (mf, S)
    have jp213 : ∀ (m8 : Mm), (ck (ix ((mI m8 0 10)) 6) (ck (ix ((mI m8 0 10)) 6) (b3 (f_Mo_next N (vX m8 5 (((mI m8 0 10)).toNatClampNeg) ((((mX m8 5 (((mI m8 0 10)).toNatClampNeg))) + 1)))) fun m11 => some (1, m11)))) = some (r0, mf) → RN xs L al (Ev xs L al d) 168 213 [(0, .ref 0)] [] (m8, S) (some (.int r0)) (mf, S) := by
      intro m8 h
      try dsimp only at h
      refine rsn 1 (t := (214, [(0, .ref 0)], [.ref 0])) rfl ?_
      refine rgR rfl rfl rfl (hSh.k 0 rfl _) (hSh.r 4 rfl _) ?_
      refine rsn 1 (t := (218, [(0, .ref 0)], [.ref 0, .ref 5])) rfl ?_
      refine pgI rfl rfl rfl (hSh.k 0 rfl _) ?_
      show RN xs L al (Ev xs L al d) 168 221 [(0, .ref 0)] [.int ((mI m8 0 10)), .ref 5] (m8, S) (some (.int r0)) (mf, S)
      refine rsn 1 (t := (222, [(0, .ref 0)], [.int ((mI m8 0 10)), .ref 5, .int ((mI m8 0 10)), .ref 5])) rfl ?_
      obtain ⟨c9, h⟩ := ck_some h
      refine pxI rfl (hSh.k 5 rfl _) (hSh.l 4 rfl _) c9 ?_
      show RN xs L al (Ev xs L al d) 168 223 [(0, .ref 0)] [.int ((mX m8 5 (((mI m8 0 10)).toNatClampNeg))), .int ((mI m8 0 10)), .ref 5] (m8, S) (some (.int r0)) (mf, S)
      refine rsn 2 (t := (225, [(0, .ref 0)], [.int ((((mX m8 5 (((mI m8 0 10)).toNatClampNeg))) + 1)), .int ((mI m8 0 10)), .ref 5])) rfl ?_
      obtain ⟨c10, h⟩ := ck_some h
      refine psI rfl (hSh.k 5 rfl _) (hSh.l 4 rfl _) c10 ?_
      refine rsn 1 (t := (227, [(0, .ref 0)], [.ref 0])) rfl ?_
      obtain ⟨m11, g11, h⟩ := b3_some h
      refine rcV 148 0 [] rfl rfl rfl (hSh.k 0 rfl _) (Nat.le_of_ble_eq_true rfl) rfl (e_Mo_next N (by omega) hSh g11) ?_
      show RN xs L al (Ev xs L al d) 168 230 [(0, .ref 0)] [] (m11, S) (some (.int r0)) (mf, S)
      refine rsn 1 (t := (231, [(0, .ref 0)], [.int 1])) rfl ?_
      cases h
      exact rret rfl ⟨rfl, rfl, _, _, rfl, rfl, rfl, rfl⟩
    rw [jn] at h
    try dsimp only at h
    by_cases c12 : r7 = 0
    · rw [if_pos c12] at h
      refine rjt (a := (95, [(1, .int ((3 * ((((3 * ((mI m 0 10)))) + ((mX m 5 (((mI m 0 10)).toNatClampNeg)))))))), (0, .ref 0)], [])) (b := (83, [(1, .int ((3 * ((((3 * ((mI m 0 10)))) + ((mX m 5 (((mI m 0 10)).toNatClampNeg)))))))), (0, .ref 0)], [])) rfl rfl c12 ?_
      refine rsn 1 (t := (96, [(1, .int ((3 * ((((3 * ((mI m 0 10)))) + ((mX m 5 (((mI m 0 10)).toNatClampNeg)))))))), (0, .ref 0)], [.ref 0])) rfl ?_
      refine rm (st1 := [.retAddr 3, .ref 0]) rfl ⟨rfl, rfl, 3, rfl, rfl⟩ ?_
      obtain ⟨r13, g13, h⟩ := b1_some h
      refine rcV 152 0 [.retAddr 3] rfl rfl rfl (hSh.k 0 rfl _) (Nat.le_of_ble_eq_true rfl) rfl (e_Mo_isWord N (by omega) hSh (by decide) g13) ?_
      show RN xs L al (Ev xs L al d) 168 101 [(1, .int ((3 * ((((3 * ((mI m 0 10)))) + ((mX m 5 (((mI m 0 10)).toNatClampNeg)))))))), (0, .ref 0)] [.int r13] ((vX m5 6 (((((3 * ((((3 * ((mI m 0 10)))) + ((mX m 5 (((mI m 0 10)).toNatClampNeg))))))) + 2)).toNatClampNeg) ((-1))), S) (some (.int r0)) (mf, S)
      by_cases c14 : r13 = 0
      · rw [if_pos c14] at h
        refine rjt (a := (144, [(1, .int ((3 * ((((3 * ((mI m 0 10)))) + ((mX m 5 (((mI m 0 10)).toNatClampNeg)))))))), (0, .ref 0)], [])) (b := (104, [(1, .int ((3 * ((((3 * ((mI m 0 10)))) + ((mX m 5 (((mI m 0 10)).toNatClampNeg)))))))), (0, .ref 0)], [])) rfl rfl c14 ?_
        refine rsn 1 (t := (145, [(1, .int ((3 * ((((3 * ((mI m 0 10)))) + ((mX m 5 (((mI m 0 10)).toNatClampNeg)))))))), (0, .ref 0)], [.ref 0])) rfl ?_
        refine rm (st1 := [.retAddr 4, .ref 0]) rfl ⟨rfl, rfl, 4, rfl, rfl⟩ ?_
        obtain ⟨r15, g15, h⟩ := b1_some h
        refine rcV 152 0 [.retAddr 4] rfl rfl rfl (hSh.k 0 rfl _) (Nat.le_of_ble_eq_true rfl) rfl (e_Mo_isWord N (by omega) hSh (by decide) g15) ?_
        show RN xs L al (Ev xs L al d) 168 150 [(1, .int ((3 * ((((3 * ((mI m 0 10)))) + ((mX m 5 (((mI m 0 10)).toNatClampNeg)))))))), (0, .ref 0)] [.int r15] ((vX m5 6 (((((3 * ((((3 * ((mI m 0 10)))) + ((mX m 5 (((mI m 0 10)).toNatClampNeg))))))) + 2)).toNatClampNeg) ((-1))), S) (some (.int r0)) (mf, S)
        by_cases c16 : r15 = 0
        · rw [if_pos c16] at h
          refine rjf (a := (155, [(1, .int ((3 * ((((3 * ((mI m 0 10)))) + ((mX m 5 (((mI m 0 10)).toNatClampNeg)))))))), (0, .ref 0)], [])) (b := (153, [(1, .int ((3 * ((((3 * ((mI m 0 10)))) + ((mX m 5 (((mI m 0 10)).toNatClampNeg)))))))), (0, .ref 0)], [])) rfl rfl (fun q => q c16) ?_
          refine rsn 1 (t := (154, [(1, .int ((3 * ((((3 * ((mI m 0 10)))) + ((mX m 5 (((mI m 0 10)).toNatClampNeg)))))))), (0, .ref 0)], [.int 0])) rfl ?_
          cases h
          exact rret rfl ⟨rfl, rfl, _, _, rfl, rfl, rfl, rfl⟩
        · rw [if_neg c16] at h
          refine rjt (a := (155, [(1, .int ((3 * ((((3 * ((mI m 0 10)))) + ((mX m 5 (((mI m 0 10)).toNatClampNeg)))))))), (0, .ref 0)], [])) (b := (153, [(1, .int ((3 * ((((3 * ((mI m 0 10)))) + ((mX m 5 (((mI m 0 10)).toNatClampNeg)))))))), (0, .ref 0)], [])) rfl rfl c16 ?_
          refine rsn 1 (t := (156, [(1, .int ((3 * ((((3 * ((mI m 0 10)))) + ((mX m 5 (((mI m 0 10)).toNatClampNeg)))))))), (0, .ref 0)], [.ref 0])) rfl ?_
          obtain ⟨m17, g17, h⟩ := b3_some h
          refine rcV 148 0 [] rfl rfl rfl (hSh.k 0 rfl _) (Nat.le_of_ble_eq_true rfl) rfl (e_Mo_next N (by omega) hSh g17) ?_
          show RN xs L al (Ev xs L al d) 168 159 [(1, .int ((3 * ((((3 * ((mI m 0 10)))) + ((mX m 5 (((mI m 0 10)).toNatClampNeg)))))))), (0, .ref 0)] [] (m17, S) (some (.int r0)) (mf, S)
          refine rsn 1 (t := (160, [(1, .int ((3 * ((((3 * ((mI m 0 10)))) + ((mX m 5 (((mI m 0 10)).toNatClampNeg)))))))), (0, .ref 0)], [.ref 0])) rfl ?_
          obtain ⟨r18, g18, h⟩ := b1_some h
          refine rcV 162 0 [] rfl rfl rfl (hSh.k 0 rfl _) (Nat.le_of_ble_eq_true rfl) rfl (e_Mo_isName N (by omega) hSh g18) ?_
          show RN xs L al (Ev xs L al d) 168 163 [(1, .int ((3 * ((((3 * ((mI m 0 10)))) + ((mX m 5 (((mI m 0 10)).toNatClampNeg)))))))), (0, .ref 0)] [.int r18] (m17, S) (some (.int r0)) (mf, S)
          have jp178 : ∀ (s19 : Int32), (((fun j213 => (if s19 = ((-1)) then some (0, m17) else ck (ix s19 3) ((if ((mX m17 3 s19.toNatClampNeg)) = 0 then some (0, m17) else ck (ix ((((3 * ((((3 * ((mI m 0 10)))) + ((mX m 5 (((mI m 0 10)).toNatClampNeg))))))) + 1)) 54) (ck (ix ((((3 * ((((3 * ((mI m 0 10)))) + ((mX m 5 (((mI m 0 10)).toNatClampNeg))))))) + 2)) 54) (j213 ((vX (vX m17 6 (((((3 * ((((3 * ((mI m 0 10)))) + ((mX m 5 (((mI m 0 10)).toNatClampNeg))))))) + 1)).toNatClampNeg) 1) 6 (((((3 * ((((3 * ((mI m 0 10)))) + ((mX m 5 (((mI m 0 10)).toNatClampNeg))))))) + 2)).toNatClampNeg) s19)))))))) (fun (m8 : Mm) => ck (ix ((mI m8 0 10)) 6) (ck (ix ((mI m8 0 10)) 6) (b3 (f_Mo_next N (vX m8 5 (((mI m8 0 10)).toNatClampNeg) ((((mX m8 5 (((mI m8 0 10)).toNatClampNeg))) + 1)))) fun m11 => some (1, m11)))))) = some (r0, mf) → RN xs L al (Ev xs L al d) 168 178 [(0, .ref 0), (1, .int ((3 * ((((3 * ((mI m 0 10)))) + ((mX m 5 (((mI m 0 10)).toNatClampNeg))))))))] [.int s19] (m17, S) (some (.int r0)) (mf, S) := by
            intro s19 h
            try dsimp only at h
            refine rsn 3 (t := (181, [(2, .int s19), (0, .ref 0), (1, .int ((3 * ((((3 * ((mI m 0 10)))) + ((mX m 5 (((mI m 0 10)).toNatClampNeg))))))))], [.int ((-1)), .int s19])) rfl ?_
            by_cases c20 : s19 = ((-1))
            · rw [if_pos c20] at h
              refine rjt (a := (193, [(2, .int s19), (0, .ref 0), (1, .int ((3 * ((((3 * ((mI m 0 10)))) + ((mX m 5 (((mI m 0 10)).toNatClampNeg))))))))], [])) (b := (184, [(2, .int s19), (0, .ref 0), (1, .int ((3 * ((((3 * ((mI m 0 10)))) + ((mX m 5 (((mI m 0 10)).toNatClampNeg))))))))], [])) rfl rfl c20 ?_
              refine rsn 1 (t := (194, [(2, .int s19), (0, .ref 0), (1, .int ((3 * ((((3 * ((mI m 0 10)))) + ((mX m 5 (((mI m 0 10)).toNatClampNeg))))))))], [.int 0])) rfl ?_
              cases h
              exact rret rfl ⟨rfl, rfl, _, _, rfl, rfl, rfl, rfl⟩
            · rw [if_neg c20] at h
              refine rjf (a := (193, [(2, .int s19), (0, .ref 0), (1, .int ((3 * ((((3 * ((mI m 0 10)))) + ((mX m 5 (((mI m 0 10)).toNatClampNeg))))))))], [])) (b := (184, [(2, .int s19), (0, .ref 0), (1, .int ((3 * ((((3 * ((mI m 0 10)))) + ((mX m 5 (((mI m 0 10)).toNatClampNeg))))))))], [])) rfl rfl c20 ?_
              refine rsn 1 (t := (185, [(2, .int s19), (0, .ref 0), (1, .int ((3 * ((((3 * ((mI m 0 10)))) + ((mX m 5 (((mI m 0 10)).toNatClampNeg))))))))], [.ref 0])) rfl ?_
              refine rgR rfl rfl rfl (hSh.k 0 rfl _) (hSh.r 2 rfl _) ?_
              refine rsn 1 (t := (189, [(2, .int s19), (0, .ref 0), (1, .int ((3 * ((((3 * ((mI m 0 10)))) + ((mX m 5 (((mI m 0 10)).toNatClampNeg))))))))], [.int s19, .ref 3])) rfl ?_
              obtain ⟨c21, h⟩ := ck_some h
              refine pxB rfl (Or.inr (hSh.k 3 rfl _)) (hSh.l 2 rfl _) c21 ?_
              show RN xs L al (Ev xs L al d) 168 190 [(2, .int s19), (0, .ref 0), (1, .int ((3 * ((((3 * ((mI m 0 10)))) + ((mX m 5 (((mI m 0 10)).toNatClampNeg))))))))] [.int ((mX m17 3 s19.toNatClampNeg))] (m17, S) (some (.int r0)) (mf, S)
              by_cases c22 : ((mX m17 3 s19.toNatClampNeg)) = 0
              · rw [if_pos c22] at h
                refine rjf (a := (195, [(2, .int s19), (0, .ref 0), (1, .int ((3 * ((((3 * ((mI m 0 10)))) + ((mX m 5 (((mI m 0 10)).toNatClampNeg))))))))], [])) (b := (193, [(2, .int s19), (0, .ref 0), (1, .int ((3 * ((((3 * ((mI m 0 10)))) + ((mX m 5 (((mI m 0 10)).toNatClampNeg))))))))], [])) rfl rfl (fun q => q c22) ?_
                refine rsn 1 (t := (194, [(2, .int s19), (0, .ref 0), (1, .int ((3 * ((((3 * ((mI m 0 10)))) + ((mX m 5 (((mI m 0 10)).toNatClampNeg))))))))], [.int 0])) rfl ?_
                cases h
                exact rret rfl ⟨rfl, rfl, _, _, rfl, rfl, rfl, rfl⟩
              · rw [if_neg c22] at h
                refine rjt (a := (195, [(2, .int s19), (0, .ref 0), (1, .int ((3 * ((((3 * ((mI m 0 10)))) + ((mX m 5 (((mI m 0 10)).toNatClampNeg))))))))], [])) (b := (193, [(2, .int s19), (0, .ref 0), (1, .int ((3 * ((((3 * ((mI m 0 10)))) + ((mX m 5 (((mI m 0 10)).toNatClampNeg))))))))], [])) rfl rfl c22 ?_
                refine rsn 1 (t := (196, [(2, .int s19), (0, .ref 0), (1, .int ((3 * ((((3 * ((mI m 0 10)))) + ((mX m 5 (((mI m 0 10)).toNatClampNeg))))))))], [.ref 0])) rfl ?_
                refine rgR rfl rfl rfl (hSh.k 0 rfl _) (hSh.r 5 rfl _) ?_
                refine rsn 4 (t := (203, [(2, .int s19), (0, .ref 0), (1, .int ((3 * ((((3 * ((mI m 0 10)))) + ((mX m 5 (((mI m 0 10)).toNatClampNeg))))))))], [.int 1, .int ((((3 * ((((3 * ((mI m 0 10)))) + ((mX m 5 (((mI m 0 10)).toNatClampNeg))))))) + 1)), .ref 6])) rfl ?_
                obtain ⟨c23, h⟩ := ck_some h
                refine psI rfl (hSh.k 6 rfl _) (hSh.l 5 rfl _) c23 ?_
                refine rsn 1 (t := (205, [(2, .int s19), (0, .ref 0), (1, .int ((3 * ((((3 * ((mI m 0 10)))) + ((mX m 5 (((mI m 0 10)).toNatClampNeg))))))))], [.ref 0])) rfl ?_
                refine rgR rfl rfl rfl (hSh.k 0 rfl _) (hSh.r 5 rfl _) ?_
                refine rsn 4 (t := (212, [(2, .int s19), (0, .ref 0), (1, .int ((3 * ((((3 * ((mI m 0 10)))) + ((mX m 5 (((mI m 0 10)).toNatClampNeg))))))))], [.int s19, .int ((((3 * ((((3 * ((mI m 0 10)))) + ((mX m 5 (((mI m 0 10)).toNatClampNeg))))))) + 2)), .ref 6])) rfl ?_
                obtain ⟨c24, h⟩ := ck_some h
                refine psI rfl (hSh.k 6 rfl _) (hSh.l 5 rfl _) c24 ?_
                exact rsub [(0, .ref 0)] ⟨rfl, trivial⟩ ⟨rfl, trivial⟩ (jp213 ((vX (vX m17 6 (((((3 * ((((3 * ((mI m 0 10)))) + ((mX m 5 (((mI m 0 10)).toNatClampNeg))))))) + 1)).toNatClampNeg) 1) 6 (((((3 * ((((3 * ((mI m 0 10)))) + ((mX m 5 (((mI m 0 10)).toNatClampNeg))))))) + 2)).toNatClampNeg) s19)) h)
          rw [jn] at h
          try dsimp only at h
          by_cases c25 : r18 = 0
          · rw [if_pos c25] at h
            refine rjt (a := (177, [(1, .int ((3 * ((((3 * ((mI m 0 10)))) + ((mX m 5 (((mI m 0 10)).toNatClampNeg)))))))), (0, .ref 0)], [])) (b := (166, [(1, .int ((3 * ((((3 * ((mI m 0 10)))) + ((mX m 5 (((mI m 0 10)).toNatClampNeg)))))))), (0, .ref 0)], [])) rfl rfl c25 ?_
            refine rsn 1 (t := (178, [(1, .int ((3 * ((((3 * ((mI m 0 10)))) + ((mX m 5 (((mI m 0 10)).toNatClampNeg)))))))), (0, .ref 0)], [.int ((-1))])) rfl ?_
            exact rsub [(0, .ref 0), (1, .int ((3 * ((((3 * ((mI m 0 10)))) + ((mX m 5 (((mI m 0 10)).toNatClampNeg))))))))] ⟨rfl, ⟨rfl, trivial⟩⟩ ⟨rfl, ⟨rfl, trivial⟩⟩ (jp178 ((-1)) h)
          · rw [if_neg c25] at h
            refine rjf (a := (177, [(1, .int ((3 * ((((3 * ((mI m 0 10)))) + ((mX m 5 (((mI m 0 10)).toNatClampNeg)))))))), (0, .ref 0)], [])) (b := (166, [(1, .int ((3 * ((((3 * ((mI m 0 10)))) + ((mX m 5 (((mI m 0 10)).toNatClampNeg)))))))), (0, .ref 0)], [])) rfl rfl c25 ?_
            refine rsn 2 (t := (168, [(1, .int ((3 * ((((3 * ((mI m 0 10)))) + ((mX m 5 (((mI m 0 10)).toNatClampNeg)))))))), (0, .ref 0)], [.ref 0, .ref 0])) rfl ?_
            refine pgJ rfl rfl rfl (hSh.k 0 rfl _) ?_
            show RN xs L al (Ev xs L al d) 168 171 [(1, .int ((3 * ((((3 * ((mI m 0 10)))) + ((mX m 5 (((mI m 0 10)).toNatClampNeg)))))))), (0, .ref 0)] [.long ((mJ m17 0 5)), .ref 0] (m17, S) (some (.int r0)) (mf, S)
            obtain ⟨r26, g26, h⟩ := b1_some h
            refine rcV 163 0 [.long ((mJ m17 0 5))] rfl rfl rfl (hSh.k 0 rfl _) (Nat.le_of_ble_eq_true rfl) rfl (e_Mo_named N (by omega) hSh g26) ?_
            show RN xs L al (Ev xs L al d) 168 174 [(1, .int ((3 * ((((3 * ((mI m 0 10)))) + ((mX m 5 (((mI m 0 10)).toNatClampNeg)))))))), (0, .ref 0)] [.int r26] (m17, S) (some (.int r0)) (mf, S)
            refine rsn 1 (t := (178, [(1, .int ((3 * ((((3 * ((mI m 0 10)))) + ((mX m 5 (((mI m 0 10)).toNatClampNeg)))))))), (0, .ref 0)], [.int r26])) rfl ?_
            exact rsub [(0, .ref 0), (1, .int ((3 * ((((3 * ((mI m 0 10)))) + ((mX m 5 (((mI m 0 10)).toNatClampNeg))))))))] ⟨rfl, ⟨rfl, trivial⟩⟩ ⟨rfl, ⟨rfl, trivial⟩⟩ (jp178 r26 h)
      · rw [if_neg c14] at h
        refine rjf (a := (144, [(1, .int ((3 * ((((3 * ((mI m 0 10)))) + ((mX m 5 (((mI m 0 10)).toNatClampNeg)))))))), (0, .ref 0)], [])) (b := (104, [(1, .int ((3 * ((((3 * ((mI m 0 10)))) + ((mX m 5 (((mI m 0 10)).toNatClampNeg)))))))), (0, .ref 0)], [])) rfl rfl c14 ?_
        refine rsn 1 (t := (105, [(1, .int ((3 * ((((3 * ((mI m 0 10)))) + ((mX m 5 (((mI m 0 10)).toNatClampNeg)))))))), (0, .ref 0)], [.ref 0])) rfl ?_
        obtain ⟨m27, g27, h⟩ := b3_some h
        refine rcV 148 0 [] rfl rfl rfl (hSh.k 0 rfl _) (Nat.le_of_ble_eq_true rfl) rfl (e_Mo_next N (by omega) hSh g27) ?_
        show RN xs L al (Ev xs L al d) 168 108 [(1, .int ((3 * ((((3 * ((mI m 0 10)))) + ((mX m 5 (((mI m 0 10)).toNatClampNeg)))))))), (0, .ref 0)] [] (m27, S) (some (.int r0)) (mf, S)
        refine rsn 3 (t := (111, [(1, .int ((3 * ((((3 * ((mI m 0 10)))) + ((mX m 5 (((mI m 0 10)).toNatClampNeg)))))))), (0, .ref 0)], [.int 2, .int 0, .ref 0])) rfl ?_
        obtain ⟨r28, g28, h⟩ := b1_some h
        refine rcV 164 0 [.int 0, .int 2] rfl rfl rfl (hSh.k 0 rfl _) (Nat.le_of_ble_eq_true rfl) rfl (e_Mo_isNumber N (by omega) hSh g28) ?_
        show RN xs L al (Ev xs L al d) 168 114 [(1, .int ((3 * ((((3 * ((mI m 0 10)))) + ((mX m 5 (((mI m 0 10)).toNatClampNeg)))))))), (0, .ref 0)] [.int r28] (m27, S) (some (.int r0)) (mf, S)
        by_cases c29 : r28 = 0
        · rw [if_pos c29] at h
          refine rjf (a := (119, [(1, .int ((3 * ((((3 * ((mI m 0 10)))) + ((mX m 5 (((mI m 0 10)).toNatClampNeg)))))))), (0, .ref 0)], [])) (b := (117, [(1, .int ((3 * ((((3 * ((mI m 0 10)))) + ((mX m 5 (((mI m 0 10)).toNatClampNeg)))))))), (0, .ref 0)], [])) rfl rfl (fun q => q c29) ?_
          refine rsn 1 (t := (118, [(1, .int ((3 * ((((3 * ((mI m 0 10)))) + ((mX m 5 (((mI m 0 10)).toNatClampNeg)))))))), (0, .ref 0)], [.int 0])) rfl ?_
          cases h
          exact rret rfl ⟨rfl, rfl, _, _, rfl, rfl, rfl, rfl⟩
        · rw [if_neg c29] at h
          refine rjt (a := (119, [(1, .int ((3 * ((((3 * ((mI m 0 10)))) + ((mX m 5 (((mI m 0 10)).toNatClampNeg)))))))), (0, .ref 0)], [])) (b := (117, [(1, .int ((3 * ((((3 * ((mI m 0 10)))) + ((mX m 5 (((mI m 0 10)).toNatClampNeg)))))))), (0, .ref 0)], [])) rfl rfl c29 ?_
          refine rsn 1 (t := (120, [(1, .int ((3 * ((((3 * ((mI m 0 10)))) + ((mX m 5 (((mI m 0 10)).toNatClampNeg)))))))), (0, .ref 0)], [.ref 0])) rfl ?_
          refine rgR rfl rfl rfl (hSh.k 0 rfl _) (hSh.r 5 rfl _) ?_
          refine rsn 4 (t := (127, [(1, .int ((3 * ((((3 * ((mI m 0 10)))) + ((mX m 5 (((mI m 0 10)).toNatClampNeg)))))))), (0, .ref 0)], [.int 0, .int ((((3 * ((((3 * ((mI m 0 10)))) + ((mX m 5 (((mI m 0 10)).toNatClampNeg))))))) + 1)), .ref 6])) rfl ?_
          obtain ⟨c30, h⟩ := ck_some h
          refine psI rfl (hSh.k 6 rfl _) (hSh.l 5 rfl _) c30 ?_
          refine rsn 1 (t := (129, [(1, .int ((3 * ((((3 * ((mI m 0 10)))) + ((mX m 5 (((mI m 0 10)).toNatClampNeg)))))))), (0, .ref 0)], [.ref 0])) rfl ?_
          refine rgR rfl rfl rfl (hSh.k 0 rfl _) (hSh.r 5 rfl _) ?_
          refine rsn 4 (t := (136, [(1, .int ((3 * ((((3 * ((mI m 0 10)))) + ((mX m 5 (((mI m 0 10)).toNatClampNeg)))))))), (0, .ref 0)], [.ref 0, .int ((((3 * ((((3 * ((mI m 0 10)))) + ((mX m 5 (((mI m 0 10)).toNatClampNeg))))))) + 2)), .ref 6])) rfl ?_
          refine pgJ rfl rfl rfl (hSh.k 0 rfl _) ?_
          show RN xs L al (Ev xs L al d) 168 139 [(1, .int ((3 * ((((3 * ((mI m 0 10)))) + ((mX m 5 (((mI m 0 10)).toNatClampNeg)))))))), (0, .ref 0)] [.long ((mJ m27 0 5)), .int ((((3 * ((((3 * ((mI m 0 10)))) + ((mX m 5 (((mI m 0 10)).toNatClampNeg))))))) + 2)), .ref 6] ((vX m27 6 (((((3 * ((((3 * ((mI m 0 10)))) + ((mX m 5 (((mI m 0 10)).toNatClampNeg))))))) + 1)).toNatClampNeg) 0), S) (some (.int r0)) (mf, S)
          refine rsn 1 (t := (140, [(1, .int ((3 * ((((3 * ((mI m 0 10)))) + ((mX m 5 (((mI m 0 10)).toNatClampNeg)))))))), (0, .ref 0)], [.int (((mJ m27 0 5)).toInt32), .int ((((3 * ((((3 * ((mI m 0 10)))) + ((mX m 5 (((mI m 0 10)).toNatClampNeg))))))) + 2)), .ref 6])) rfl ?_
          obtain ⟨c31, h⟩ := ck_some h
          refine psI rfl (hSh.k 6 rfl _) (hSh.l 5 rfl _) c31 ?_
          refine rsn 1 (t := (213, [(1, .int ((3 * ((((3 * ((mI m 0 10)))) + ((mX m 5 (((mI m 0 10)).toNatClampNeg)))))))), (0, .ref 0)], [])) rfl ?_
          exact rsub [(0, .ref 0)] ⟨rfl, trivial⟩ ⟨rfl, trivial⟩ (jp213 ((vX (vX m27 6 (((((3 * ((((3 * ((mI m 0 10)))) + ((mX m 5 (((mI m 0 10)).toNatClampNeg))))))) + 1)).toNatClampNeg) 0) 6 (((((3 * ((((3 * ((mI m 0 10)))) + ((mX m 5 (((mI m 0 10)).toNatClampNeg))))))) + 2)).toNatClampNeg) (((mJ m27 0 5)).toInt32))) h)
    · rw [if_neg c12] at h
      refine rjf (a := (95, [(1, .int ((3 * ((((3 * ((mI m 0 10)))) + ((mX m 5 (((mI m 0 10)).toNatClampNeg)))))))), (0, .ref 0)], [])) (b := (83, [(1, .int ((3 * ((((3 * ((mI m 0 10)))) + ((mX m 5 (((mI m 0 10)).toNatClampNeg)))))))), (0, .ref 0)], [])) rfl rfl c12 ?_
      refine rsn 1 (t := (84, [(1, .int ((3 * ((((3 * ((mI m 0 10)))) + ((mX m 5 (((mI m 0 10)).toNatClampNeg)))))))), (0, .ref 0)], [.ref 0])) rfl ?_
      refine rgR rfl rfl rfl (hSh.k 0 rfl _) (hSh.r 5 rfl _) ?_
      refine rsn 4 (t := (91, [(1, .int ((3 * ((((3 * ((mI m 0 10)))) + ((mX m 5 (((mI m 0 10)).toNatClampNeg)))))))), (0, .ref 0)], [.int 2, .int ((((3 * ((((3 * ((mI m 0 10)))) + ((mX m 5 (((mI m 0 10)).toNatClampNeg))))))) + 1)), .ref 6])) rfl ?_
      obtain ⟨c32, h⟩ := ck_some h
      refine psI rfl (hSh.k 6 rfl _) (hSh.l 5 rfl _) c32 ?_
      refine rsn 1 (t := (213, [(1, .int ((3 * ((((3 * ((mI m 0 10)))) + ((mX m 5 (((mI m 0 10)).toNatClampNeg)))))))), (0, .ref 0)], [])) rfl ?_
      exact rsub [(0, .ref 0)] ⟨rfl, trivial⟩ ⟨rfl, trivial⟩ (jp213 ((vX (vX m5 6 (((((3 * ((((3 * ((mI m 0 10)))) + ((mX m 5 (((mI m 0 10)).toNatClampNeg))))))) + 2)).toNatClampNeg) ((-1))) 6 (((((3 * ((((3 * ((mI m 0 10)))) + ((mX m 5 (((mI m 0 10)).toNatClampNeg))))))) + 1)).toNatClampNeg) 2)) h)
def f_Mo_dayLine_L39 (N : Nat) (k39 : Mm → Option (Int32 × Mm)) : Nat → Mm → Option (Int32 × Mm)
  | 0, _ => none
  | n39 + 1, m => f_Mo_dayLine_L39 N k39 n39 m
def f_Mo_dayLine (N : Nat) (m : Mm) : Option (Int32 × Mm) := (if ((mI m 0 10)) = 6 then some (0, m) else b3 (f_Mo_next N m) fun m2 => ck (ix ((mI m2 0 10)) 6) (b2 (f_Mo_altHere N (vX (vI m2 0 30 0) 5 (((mI m2 0 10)).toNatClampNeg) 0)) fun r4 m4 => (if r4 = 0 then some (0, m4) else f_Mo_dayLine_L39 N (fun (m6 : Mm) => (if ((mI m6 0 30)) < 12 then some (0, m6) else b2 (f_Mo_closes N m6) fun r8 m8 => (if r8 = 0 then some (0, m8) else some (1, (vI m8 0 10 ((((mI m8 0 10)) + 1))))))) N m4)))
set_option maxRecDepth 20000 in
set_option maxHeartbeats 4000000 in
theorem e_Mo_dayLine {xs : Nat → Int32} {L : Nat} {al : Bool} (N : Nat) {d : Nat} (hd : 9 ≤ d) {S : St} (hSh : ShR S) {m : Mm} {r0 : Int32} {mf : Mm} (h : f_Mo_dayLine N m = some (r0, mf)) : Ev xs L al d 167 [.ref 0] (m, S) (some (.int r0)) (mf, S) := by
  obtain ⟨d, rfl⟩ : ∃ e, d = e + 1 := ⟨d - 1, by omega⟩
  refine ev_of (by decide) (Nat.le_of_ble_eq_true rfl) ?_
  rw [f_Mo_dayLine] at h
  show RN xs L al (Ev xs L al d) 167 0 [(0, .ref 0)] [] (m, S) (some (.int r0)) (mf, S)
  refine rsn 1 (t := (1, [(0, .ref 0)], [.ref 0])) rfl ?_
  refine pgI rfl rfl rfl (hSh.k 0 rfl _) ?_
  show RN xs L al (Ev xs L al d) 167 4 [(0, .ref 0)] [.int ((mI m 0 10))] (m, S) (some (.int r0)) (mf, S)
  refine rsn 1 (t := (6, [(0, .ref 0)], [.int 6, .int ((mI m 0 10))])) rfl ?_
  by_cases c1 : ((mI m 0 10)) = 6
  · rw [if_pos c1] at h
    refine rjf (a := (11, [(0, .ref 0)], [])) (b := (9, [(0, .ref 0)], [])) rfl rfl (fun q => q c1) ?_
    refine rsn 1 (t := (10, [(0, .ref 0)], [.int 0])) rfl ?_
    cases h
    exact rret rfl ⟨rfl, rfl, _, _, rfl, rfl, rfl, rfl⟩
  · rw [if_neg c1] at h
    refine rjt (a := (11, [(0, .ref 0)], [])) (b := (9, [(0, .ref 0)], [])) rfl rfl c1 ?_
    refine rsn 1 (t := (12, [(0, .ref 0)], [.ref 0])) rfl ?_
    obtain ⟨m2, g2, h⟩ := b3_some h
    refine rcV 148 0 [] rfl rfl rfl (hSh.k 0 rfl _) (Nat.le_of_ble_eq_true rfl) rfl (e_Mo_next N (by omega) hSh g2) ?_
    show RN xs L al (Ev xs L al d) 167 15 [(0, .ref 0)] [] (m2, S) (some (.int r0)) (mf, S)
    refine rsn 2 (t := (17, [(0, .ref 0)], [.int 0, .ref 0])) rfl ?_
    refine ppI rfl rfl rfl rfl (hSh.k 0 rfl _) ?_
    refine rsn 1 (t := (21, [(0, .ref 0)], [.ref 0])) rfl ?_
    refine rgR rfl rfl rfl (hSh.k 0 rfl _) (hSh.r 4 rfl _) ?_
    refine rsn 1 (t := (25, [(0, .ref 0)], [.ref 0, .ref 5])) rfl ?_
    refine pgI rfl rfl rfl (hSh.k 0 rfl _) ?_
    show RN xs L al (Ev xs L al d) 167 28 [(0, .ref 0)] [.int ((mI m2 0 10)), .ref 5] ((vI m2 0 30 0), S) (some (.int r0)) (mf, S)
    refine rsn 1 (t := (29, [(0, .ref 0)], [.int 0, .int ((mI m2 0 10)), .ref 5])) rfl ?_
    obtain ⟨c3, h⟩ := ck_some h
    refine psI rfl (hSh.k 5 rfl _) (hSh.l 4 rfl _) c3 ?_
    refine rsn 1 (t := (31, [(0, .ref 0)], [.ref 0])) rfl ?_
    obtain ⟨r4, m4, g4, h⟩ := b2_some h
    refine rcV 168 0 [] rfl rfl rfl (hSh.k 0 rfl _) (Nat.le_of_ble_eq_true rfl) rfl (e_Mo_altHere N (by omega) hSh g4) ?_
    show RN xs L al (Ev xs L al d) 167 34 [(0, .ref 0)] [.int r4] (m4, S) (some (.int r0)) (mf, S)
    by_cases c5 : r4 = 0
    · rw [if_pos c5] at h
      refine rjf (a := (39, [(0, .ref 0)], [])) (b := (37, [(0, .ref 0)], [])) rfl rfl (fun q => q c5) ?_
      refine rsn 1 (t := (38, [(0, .ref 0)], [.int 0])) rfl ?_
      cases h
      exact rret rfl ⟨rfl, rfl, _, _, rfl, rfl, rfl, rfl⟩
    · rw [if_neg c5] at h
      refine rjt (a := (39, [(0, .ref 0)], [])) (b := (37, [(0, .ref 0)], [])) rfl rfl c5 ?_
      have ex39 : ∀ (m6 : Mm), ((if ((mI m6 0 30)) < 12 then some (0, m6) else b2 (f_Mo_closes N m6) fun r8 m8 => (if r8 = 0 then some (0, m8) else some (1, (vI m8 0 10 ((((mI m8 0 10)) + 1))))))) = some (r0, mf) → RN xs L al (Ev xs L al d) 167 74 [(0, .ref 0)] [] (m6, S) (some (.int r0)) (mf, S) := by
        intro m6 h
        try dsimp only at h
        refine rsn 1 (t := (75, [(0, .ref 0)], [.ref 0])) rfl ?_
        refine pgI rfl rfl rfl (hSh.k 0 rfl _) ?_
        show RN xs L al (Ev xs L al d) 167 78 [(0, .ref 0)] [.int ((mI m6 0 30))] (m6, S) (some (.int r0)) (mf, S)
        refine rsn 1 (t := (80, [(0, .ref 0)], [.int 12, .int ((mI m6 0 30))])) rfl ?_
        by_cases c7 : ((mI m6 0 30)) < 12
        · rw [if_pos c7] at h
          refine rjt (a := (90, [(0, .ref 0)], [])) (b := (83, [(0, .ref 0)], [])) rfl rfl c7 ?_
          refine rsn 1 (t := (91, [(0, .ref 0)], [.int 0])) rfl ?_
          cases h
          exact rret rfl ⟨rfl, rfl, _, _, rfl, rfl, rfl, rfl⟩
        · rw [if_neg c7] at h
          refine rjf (a := (90, [(0, .ref 0)], [])) (b := (83, [(0, .ref 0)], [])) rfl rfl c7 ?_
          refine rsn 1 (t := (84, [(0, .ref 0)], [.ref 0])) rfl ?_
          obtain ⟨r8, m8, g8, h⟩ := b2_some h
          refine rcV 165 0 [] rfl rfl rfl (hSh.k 0 rfl _) (Nat.le_of_ble_eq_true rfl) rfl (e_Mo_closes N (by omega) hSh g8) ?_
          show RN xs L al (Ev xs L al d) 167 87 [(0, .ref 0)] [.int r8] (m8, S) (some (.int r0)) (mf, S)
          by_cases c9 : r8 = 0
          · rw [if_pos c9] at h
            refine rjf (a := (92, [(0, .ref 0)], [])) (b := (90, [(0, .ref 0)], [])) rfl rfl (fun q => q c9) ?_
            refine rsn 1 (t := (91, [(0, .ref 0)], [.int 0])) rfl ?_
            cases h
            exact rret rfl ⟨rfl, rfl, _, _, rfl, rfl, rfl, rfl⟩
          · rw [if_neg c9] at h
            refine rjt (a := (92, [(0, .ref 0)], [])) (b := (90, [(0, .ref 0)], [])) rfl rfl c9 ?_
            refine rsn 2 (t := (94, [(0, .ref 0)], [.ref 0, .ref 0])) rfl ?_
            refine pgI rfl rfl rfl (hSh.k 0 rfl _) ?_
            show RN xs L al (Ev xs L al d) 167 97 [(0, .ref 0)] [.int ((mI m8 0 10)), .ref 0] (m8, S) (some (.int r0)) (mf, S)
            refine rsn 2 (t := (99, [(0, .ref 0)], [.int ((((mI m8 0 10)) + 1)), .ref 0])) rfl ?_
            refine ppI rfl rfl rfl rfl (hSh.k 0 rfl _) ?_
            refine rsn 1 (t := (103, [(0, .ref 0)], [.int 1])) rfl ?_
            cases h
            exact rret rfl ⟨rfl, rfl, _, _, rfl, rfl, rfl, rfl⟩
      have lp39 : ∀ (n : Nat) (m10 : Mm), (f_Mo_dayLine_L39 N (fun (m6 : Mm) => (if ((mI m6 0 30)) < 12 then some (0, m6) else b2 (f_Mo_closes N m6) fun r8 m8 => (if r8 = 0 then some (0, m8) else some (1, (vI m8 0 10 ((((mI m8 0 10)) + 1))))))) n m10) = some (r0, mf) → RN xs L al (Ev xs L al d) 167 39 [(0, .ref 0)] [] (m10, S) (some (.int r0)) (mf, S) := by
        intro n
        induction n with
        | zero => intro m10 h; exact absurd h (by simp [f_Mo_dayLine_L39])
        | succ n39 ih39 =>
          intro m10 h
          try dsimp only at h
          rw [f_Mo_dayLine_L39] at h
          try dsimp only at h
          exact rsub [(0, .ref 0)] ⟨rfl, trivial⟩ ⟨rfl, trivial⟩ (ih39 m10 h)
      exact rsub [(0, .ref 0)] ⟨rfl, trivial⟩ ⟨rfl, trivial⟩ (lp39 N m4 h)
def f_Mo_line (N : Nat) (m : Mm) : Option (Int32 × Mm) := b1 (f_Mo_isWord N 0 m) fun r1 => (if r1 = 0 then b1 (f_Mo_isWord N 1 m) fun r6 => (if r6 = 0 then b1 (f_Mo_isWord N 2 m) fun r8 => (if r8 = 0 then b1 (f_Mo_isWord N 6 m) fun r10 => (jn (fun (_ : Unit) => (jn (fun (s11 : Int32) => (if s11 = ((-1)) then b3 (f_Mo_next N m) fun m13 => (jn (fun (s14 : Int32) => b1 (f_Mo_isNumber N 0 s14 m13) fun r15 => (if r15 = 0 then some (0, m13) else (if r10 = 0 then b3 (f_Mo_next N (vI m13 0 14 (((mJ m13 0 5)).toInt32))) fun m18 => b2 (f_Mo_closes N m18) fun r19 m19 => ck (r19 = 0 ∨ r19 = 1) (some (r19, m19)) else b3 (f_Mo_next N (vI m13 0 13 (((mJ m13 0 5)).toInt32))) fun m21 => b2 (f_Mo_closes N m21) fun r22 m22 => ck (r22 = 0 ∨ r22 = 1) (some (r22, m22))))) (fun j99 => if r10 = 0 then j99 1 else j99 2)) else some (0, m))) (fun j78 => if r10 = 0 then j78 ((mI m 0 14)) else j78 ((mI m 0 13))))) (fun j63 => if r10 = 0 then b1 (f_Mo_isWord N 7 m) fun r27 => (if r27 = 0 then some (0, m) else j63 ()) else j63 ())) else b2 (f_Mo_dayLine N m) fun r29 m29 => ck (r29 = 0 ∨ r29 = 1) (some (r29, m29))) else b1 (f_Mo_isWord N 1 m) fun r31 => b2 (f_Mo_heirLine N r31 m) fun r32 m32 => ck (r32 = 0 ∨ r32 = 1) (some (r32, m32))) else b1 (f_Mo_isWord N 1 m) fun r3 => b2 (f_Mo_heirLine N r3 m) fun r4 m4 => ck (r4 = 0 ∨ r4 = 1) (some (r4, m4)))
set_option maxRecDepth 20000 in
set_option maxHeartbeats 4000000 in
theorem e_Mo_line {xs : Nat → Int32} {L : Nat} {al : Bool} (N : Nat) {d : Nat} (hd : 10 ≤ d) {S : St} (hSh : ShR S) {m : Mm} {r0 : Int32} {mf : Mm} (h : f_Mo_line N m = some (r0, mf)) : Ev xs L al d 151 [.ref 0] (m, S) (some (.int r0)) (mf, S) := by
  obtain ⟨d, rfl⟩ : ∃ e, d = e + 1 := ⟨d - 1, by omega⟩
  refine ev_of (by decide) (Nat.le_of_ble_eq_true rfl) ?_
  rw [f_Mo_line] at h
  show RN xs L al (Ev xs L al d) 151 0 [(0, .ref 0)] [] (m, S) (some (.int r0)) (mf, S)
  refine rsn 1 (t := (1, [(0, .ref 0)], [.ref 0])) rfl ?_
  refine rm (st1 := [.retAddr 0, .ref 0]) rfl ⟨rfl, rfl, 0, rfl, rfl⟩ ?_
  obtain ⟨r1, g1, h⟩ := b1_some h
  refine rcV 152 0 [.retAddr 0] rfl rfl rfl (hSh.k 0 rfl _) (Nat.le_of_ble_eq_true rfl) rfl (e_Mo_isWord N (by omega) hSh (by decide) g1) ?_
  show RN xs L al (Ev xs L al d) 151 6 [(0, .ref 0)] [.int r1] (m, S) (some (.int r0)) (mf, S)
  by_cases c2 : r1 = 0
  · rw [if_pos c2] at h
    refine rjf (a := (18, [(0, .ref 0)], [])) (b := (9, [(0, .ref 0)], [])) rfl rfl (fun q => q c2) ?_
    refine rsn 1 (t := (10, [(0, .ref 0)], [.ref 0])) rfl ?_
    refine rm (st1 := [.retAddr 1, .ref 0]) rfl ⟨rfl, rfl, 1, rfl, rfl⟩ ?_
    obtain ⟨r6, g6, h⟩ := b1_some h
    refine rcV 152 0 [.retAddr 1] rfl rfl rfl (hSh.k 0 rfl _) (Nat.le_of_ble_eq_true rfl) rfl (e_Mo_isWord N (by omega) hSh (by decide) g6) ?_
    show RN xs L al (Ev xs L al d) 151 15 [(0, .ref 0)] [.int r6] (m, S) (some (.int r0)) (mf, S)
    by_cases c7 : r6 = 0
    · rw [if_pos c7] at h
      refine rjt (a := (29, [(0, .ref 0)], [])) (b := (18, [(0, .ref 0)], [])) rfl rfl c7 ?_
      refine rsn 1 (t := (30, [(0, .ref 0)], [.ref 0])) rfl ?_
      refine rm (st1 := [.retAddr 2, .ref 0]) rfl ⟨rfl, rfl, 2, rfl, rfl⟩ ?_
      obtain ⟨r8, g8, h⟩ := b1_some h
      refine rcV 152 0 [.retAddr 2] rfl rfl rfl (hSh.k 0 rfl _) (Nat.le_of_ble_eq_true rfl) rfl (e_Mo_isWord N (by omega) hSh (by decide) g8) ?_
      show RN xs L al (Ev xs L al d) 151 35 [(0, .ref 0)] [.int r8] (m, S) (some (.int r0)) (mf, S)
      by_cases c9 : r8 = 0
      · rw [if_pos c9] at h
        refine rjt (a := (43, [(0, .ref 0)], [])) (b := (38, [(0, .ref 0)], [])) rfl rfl c9 ?_
        refine rsn 1 (t := (44, [(0, .ref 0)], [.ref 0])) rfl ?_
        refine rm (st1 := [.retAddr 6, .ref 0]) rfl ⟨rfl, rfl, 6, rfl, rfl⟩ ?_
        obtain ⟨r10, g10, h⟩ := b1_some h
        refine rcV 152 0 [.retAddr 6] rfl rfl rfl (hSh.k 0 rfl _) (Nat.le_of_ble_eq_true rfl) rfl (e_Mo_isWord N (by omega) hSh (by decide) g10) ?_
        show RN xs L al (Ev xs L al d) 151 49 [(0, .ref 0)] [.int r10] (m, S) (some (.int r0)) (mf, S)
        refine rsn 2 (t := (51, [(1, .int r10), (0, .ref 0)], [.int r10])) rfl ?_
        have jp63 : ∀ (_ : Unit), ((jn (fun (s11 : Int32) => (if s11 = ((-1)) then b3 (f_Mo_next N m) fun m13 => (jn (fun (s14 : Int32) => b1 (f_Mo_isNumber N 0 s14 m13) fun r15 => (if r15 = 0 then some (0, m13) else (if r10 = 0 then b3 (f_Mo_next N (vI m13 0 14 (((mJ m13 0 5)).toInt32))) fun m18 => b2 (f_Mo_closes N m18) fun r19 m19 => ck (r19 = 0 ∨ r19 = 1) (some (r19, m19)) else b3 (f_Mo_next N (vI m13 0 13 (((mJ m13 0 5)).toInt32))) fun m21 => b2 (f_Mo_closes N m21) fun r22 m22 => ck (r22 = 0 ∨ r22 = 1) (some (r22, m22))))) (fun j99 => if r10 = 0 then j99 1 else j99 2)) else some (0, m))) (fun j78 => if r10 = 0 then j78 ((mI m 0 14)) else j78 ((mI m 0 13))))) = some (r0, mf) → RN xs L al (Ev xs L al d) 151 63 [(0, .ref 0), (1, .int r10)] [] (m, S) (some (.int r0)) (mf, S) := by
          intro _ h
          try dsimp only at h
          refine rsn 1 (t := (64, [(0, .ref 0), (1, .int r10)], [.int r10])) rfl ?_
          have jp78 : ∀ (s11 : Int32), ((if s11 = ((-1)) then b3 (f_Mo_next N m) fun m13 => (jn (fun (s14 : Int32) => b1 (f_Mo_isNumber N 0 s14 m13) fun r15 => (if r15 = 0 then some (0, m13) else (if r10 = 0 then b3 (f_Mo_next N (vI m13 0 14 (((mJ m13 0 5)).toInt32))) fun m18 => b2 (f_Mo_closes N m18) fun r19 m19 => ck (r19 = 0 ∨ r19 = 1) (some (r19, m19)) else b3 (f_Mo_next N (vI m13 0 13 (((mJ m13 0 5)).toInt32))) fun m21 => b2 (f_Mo_closes N m21) fun r22 m22 => ck (r22 = 0 ∨ r22 = 1) (some (r22, m22))))) (fun j99 => if r10 = 0 then j99 1 else j99 2)) else some (0, m))) = some (r0, mf) → RN xs L al (Ev xs L al d) 151 78 [(0, .ref 0), (1, .int r10)] [.int s11] (m, S) (some (.int r0)) (mf, S) := by
            intro s11 h
            try dsimp only at h
            refine rsn 1 (t := (79, [(0, .ref 0), (1, .int r10)], [.int ((-1)), .int s11])) rfl ?_
            by_cases c12 : s11 = ((-1))
            · rw [if_pos c12] at h
              refine rjt (a := (84, [(0, .ref 0), (1, .int r10)], [])) (b := (82, [(0, .ref 0), (1, .int r10)], [])) rfl rfl c12 ?_
              refine rsn 1 (t := (85, [(0, .ref 0), (1, .int r10)], [.ref 0])) rfl ?_
              obtain ⟨m13, g13, h⟩ := b3_some h
              refine rcV 148 0 [] rfl rfl rfl (hSh.k 0 rfl _) (Nat.le_of_ble_eq_true rfl) rfl (e_Mo_next N (by omega) hSh g13) ?_
              show RN xs L al (Ev xs L al d) 151 88 [(0, .ref 0), (1, .int r10)] [] (m13, S) (some (.int r0)) (mf, S)
              refine rsn 3 (t := (91, [(0, .ref 0), (1, .int r10)], [.int r10, .int 0, .ref 0])) rfl ?_
              have jp99 : ∀ (s14 : Int32), (b1 (f_Mo_isNumber N 0 s14 m13) fun r15 => (if r15 = 0 then some (0, m13) else (if r10 = 0 then b3 (f_Mo_next N (vI m13 0 14 (((mJ m13 0 5)).toInt32))) fun m18 => b2 (f_Mo_closes N m18) fun r19 m19 => ck (r19 = 0 ∨ r19 = 1) (some (r19, m19)) else b3 (f_Mo_next N (vI m13 0 13 (((mJ m13 0 5)).toInt32))) fun m21 => b2 (f_Mo_closes N m21) fun r22 m22 => ck (r22 = 0 ∨ r22 = 1) (some (r22, m22))))) = some (r0, mf) → RN xs L al (Ev xs L al d) 151 99 [(0, .ref 0), (1, .int r10)] [.int s14, .int 0, .ref 0] (m13, S) (some (.int r0)) (mf, S) := by
                intro s14 h
                try dsimp only at h
                obtain ⟨r15, g15, h⟩ := b1_some h
                refine rcV 164 0 [.int 0, .int s14] rfl rfl rfl (hSh.k 0 rfl _) (Nat.le_of_ble_eq_true rfl) rfl (e_Mo_isNumber N (by omega) hSh g15) ?_
                show RN xs L al (Ev xs L al d) 151 102 [(0, .ref 0), (1, .int r10)] [.int r15] (m13, S) (some (.int r0)) (mf, S)
                by_cases c16 : r15 = 0
                · rw [if_pos c16] at h
                  refine rjf (a := (107, [(0, .ref 0), (1, .int r10)], [])) (b := (105, [(0, .ref 0), (1, .int r10)], [])) rfl rfl (fun q => q c16) ?_
                  refine rsn 1 (t := (106, [(0, .ref 0), (1, .int r10)], [.int 0])) rfl ?_
                  cases h
                  exact rret rfl ⟨rfl, rfl, _, _, rfl, rfl, rfl, rfl⟩
                · rw [if_neg c16] at h
                  refine rjt (a := (107, [(0, .ref 0), (1, .int r10)], [])) (b := (105, [(0, .ref 0), (1, .int r10)], [])) rfl rfl c16 ?_
                  refine rsn 1 (t := (108, [(0, .ref 0), (1, .int r10)], [.int r10])) rfl ?_
                  by_cases c17 : r10 = 0
                  · rw [if_pos c17] at h
                    refine rjt (a := (123, [(0, .ref 0), (1, .int r10)], [])) (b := (111, [(0, .ref 0), (1, .int r10)], [])) rfl rfl c17 ?_
                    refine rsn 2 (t := (125, [(0, .ref 0), (1, .int r10)], [.ref 0, .ref 0])) rfl ?_
                    refine pgJ rfl rfl rfl (hSh.k 0 rfl _) ?_
                    show RN xs L al (Ev xs L al d) 151 128 [(0, .ref 0), (1, .int r10)] [.long ((mJ m13 0 5)), .ref 0] (m13, S) (some (.int r0)) (mf, S)
                    refine rsn 1 (t := (129, [(0, .ref 0), (1, .int r10)], [.int (((mJ m13 0 5)).toInt32), .ref 0])) rfl ?_
                    refine ppI rfl rfl rfl rfl (hSh.k 0 rfl _) ?_
                    refine rsn 1 (t := (133, [(0, .ref 0), (1, .int r10)], [.ref 0])) rfl ?_
                    obtain ⟨m18, g18, h⟩ := b3_some h
                    refine rcV 148 0 [] rfl rfl rfl (hSh.k 0 rfl _) (Nat.le_of_ble_eq_true rfl) rfl (e_Mo_next N (by omega) hSh g18) ?_
                    show RN xs L al (Ev xs L al d) 151 136 [(0, .ref 0), (1, .int r10)] [] (m18, S) (some (.int r0)) (mf, S)
                    refine rsn 1 (t := (137, [(0, .ref 0), (1, .int r10)], [.ref 0])) rfl ?_
                    obtain ⟨r19, m19, g19, h⟩ := b2_some h
                    refine rcV 165 0 [] rfl rfl rfl (hSh.k 0 rfl _) (Nat.le_of_ble_eq_true rfl) rfl (e_Mo_closes N (by omega) hSh g19) ?_
                    show RN xs L al (Ev xs L al d) 151 140 [(0, .ref 0), (1, .int r10)] [.int r19] (m19, S) (some (.int r0)) (mf, S)
                    obtain ⟨c20, h⟩ := ck_some h
                    cases h
                    exact rret rfl ⟨rfl, rfl, _, _, rfl, rfl, rfl, nz_of c20⟩
                  · rw [if_neg c17] at h
                    refine rjf (a := (123, [(0, .ref 0), (1, .int r10)], [])) (b := (111, [(0, .ref 0), (1, .int r10)], [])) rfl rfl c17 ?_
                    refine rsn 2 (t := (113, [(0, .ref 0), (1, .int r10)], [.ref 0, .ref 0])) rfl ?_
                    refine pgJ rfl rfl rfl (hSh.k 0 rfl _) ?_
                    show RN xs L al (Ev xs L al d) 151 116 [(0, .ref 0), (1, .int r10)] [.long ((mJ m13 0 5)), .ref 0] (m13, S) (some (.int r0)) (mf, S)
                    refine rsn 1 (t := (117, [(0, .ref 0), (1, .int r10)], [.int (((mJ m13 0 5)).toInt32), .ref 0])) rfl ?_
                    refine ppI rfl rfl rfl rfl (hSh.k 0 rfl _) ?_
                    refine rsn 2 (t := (133, [(0, .ref 0), (1, .int r10)], [.ref 0])) rfl ?_
                    obtain ⟨m21, g21, h⟩ := b3_some h
                    refine rcV 148 0 [] rfl rfl rfl (hSh.k 0 rfl _) (Nat.le_of_ble_eq_true rfl) rfl (e_Mo_next N (by omega) hSh g21) ?_
                    show RN xs L al (Ev xs L al d) 151 136 [(0, .ref 0), (1, .int r10)] [] (m21, S) (some (.int r0)) (mf, S)
                    refine rsn 1 (t := (137, [(0, .ref 0), (1, .int r10)], [.ref 0])) rfl ?_
                    obtain ⟨r22, m22, g22, h⟩ := b2_some h
                    refine rcV 165 0 [] rfl rfl rfl (hSh.k 0 rfl _) (Nat.le_of_ble_eq_true rfl) rfl (e_Mo_closes N (by omega) hSh g22) ?_
                    show RN xs L al (Ev xs L al d) 151 140 [(0, .ref 0), (1, .int r10)] [.int r22] (m22, S) (some (.int r0)) (mf, S)
                    obtain ⟨c23, h⟩ := ck_some h
                    cases h
                    exact rret rfl ⟨rfl, rfl, _, _, rfl, rfl, rfl, nz_of c23⟩
              rw [jn] at h
              try dsimp only at h
              by_cases c24 : r10 = 0
              · rw [if_pos c24] at h
                refine rjt (a := (98, [(0, .ref 0), (1, .int r10)], [.int 0, .ref 0])) (b := (94, [(0, .ref 0), (1, .int r10)], [.int 0, .ref 0])) rfl rfl c24 ?_
                refine rsn 1 (t := (99, [(0, .ref 0), (1, .int r10)], [.int 1, .int 0, .ref 0])) rfl ?_
                exact rsub [(0, .ref 0), (1, .int r10)] ⟨rfl, ⟨rfl, trivial⟩⟩ ⟨rfl, ⟨rfl, trivial⟩⟩ (jp99 1 h)
              · rw [if_neg c24] at h
                refine rjf (a := (98, [(0, .ref 0), (1, .int r10)], [.int 0, .ref 0])) (b := (94, [(0, .ref 0), (1, .int r10)], [.int 0, .ref 0])) rfl rfl c24 ?_
                refine rsn 2 (t := (99, [(0, .ref 0), (1, .int r10)], [.int 2, .int 0, .ref 0])) rfl ?_
                exact rsub [(0, .ref 0), (1, .int r10)] ⟨rfl, ⟨rfl, trivial⟩⟩ ⟨rfl, ⟨rfl, trivial⟩⟩ (jp99 2 h)
            · rw [if_neg c12] at h
              refine rjf (a := (84, [(0, .ref 0), (1, .int r10)], [])) (b := (82, [(0, .ref 0), (1, .int r10)], [])) rfl rfl c12 ?_
              refine rsn 1 (t := (83, [(0, .ref 0), (1, .int r10)], [.int 0])) rfl ?_
              cases h
              exact rret rfl ⟨rfl, rfl, _, _, rfl, rfl, rfl, rfl⟩
          rw [jn] at h
          try dsimp only at h
          by_cases c25 : r10 = 0
          · rw [if_pos c25] at h
            refine rjt (a := (74, [(0, .ref 0), (1, .int r10)], [])) (b := (67, [(0, .ref 0), (1, .int r10)], [])) rfl rfl c25 ?_
            refine rsn 1 (t := (75, [(0, .ref 0), (1, .int r10)], [.ref 0])) rfl ?_
            refine pgI rfl rfl rfl (hSh.k 0 rfl _) ?_
            show RN xs L al (Ev xs L al d) 151 78 [(0, .ref 0), (1, .int r10)] [.int ((mI m 0 14))] (m, S) (some (.int r0)) (mf, S)
            exact rsub [(0, .ref 0), (1, .int r10)] ⟨rfl, ⟨rfl, trivial⟩⟩ ⟨rfl, ⟨rfl, trivial⟩⟩ (jp78 ((mI m 0 14)) h)
          · rw [if_neg c25] at h
            refine rjf (a := (74, [(0, .ref 0), (1, .int r10)], [])) (b := (67, [(0, .ref 0), (1, .int r10)], [])) rfl rfl c25 ?_
            refine rsn 1 (t := (68, [(0, .ref 0), (1, .int r10)], [.ref 0])) rfl ?_
            refine pgI rfl rfl rfl (hSh.k 0 rfl _) ?_
            show RN xs L al (Ev xs L al d) 151 71 [(0, .ref 0), (1, .int r10)] [.int ((mI m 0 13))] (m, S) (some (.int r0)) (mf, S)
            refine rsn 1 (t := (78, [(0, .ref 0), (1, .int r10)], [.int ((mI m 0 13))])) rfl ?_
            exact rsub [(0, .ref 0), (1, .int r10)] ⟨rfl, ⟨rfl, trivial⟩⟩ ⟨rfl, ⟨rfl, trivial⟩⟩ (jp78 ((mI m 0 13)) h)
        rw [jn] at h
        try dsimp only at h
        by_cases c26 : r10 = 0
        · rw [if_pos c26] at h
          refine rjf (a := (63, [(1, .int r10), (0, .ref 0)], [])) (b := (54, [(1, .int r10), (0, .ref 0)], [])) rfl rfl (fun q => q c26) ?_
          refine rsn 1 (t := (55, [(1, .int r10), (0, .ref 0)], [.ref 0])) rfl ?_
          refine rm (st1 := [.retAddr 7, .ref 0]) rfl ⟨rfl, rfl, 7, rfl, rfl⟩ ?_
          obtain ⟨r27, g27, h⟩ := b1_some h
          refine rcV 152 0 [.retAddr 7] rfl rfl rfl (hSh.k 0 rfl _) (Nat.le_of_ble_eq_true rfl) rfl (e_Mo_isWord N (by omega) hSh (by decide) g27) ?_
          show RN xs L al (Ev xs L al d) 151 60 [(1, .int r10), (0, .ref 0)] [.int r27] (m, S) (some (.int r0)) (mf, S)
          by_cases c28 : r27 = 0
          · rw [if_pos c28] at h
            refine rjt (a := (82, [(1, .int r10), (0, .ref 0)], [])) (b := (63, [(1, .int r10), (0, .ref 0)], [])) rfl rfl c28 ?_
            refine rsn 1 (t := (83, [(1, .int r10), (0, .ref 0)], [.int 0])) rfl ?_
            cases h
            exact rret rfl ⟨rfl, rfl, _, _, rfl, rfl, rfl, rfl⟩
          · rw [if_neg c28] at h
            refine rjf (a := (82, [(1, .int r10), (0, .ref 0)], [])) (b := (63, [(1, .int r10), (0, .ref 0)], [])) rfl rfl c28 ?_
            exact rsub [(0, .ref 0), (1, .int r10)] ⟨rfl, ⟨rfl, trivial⟩⟩ ⟨rfl, ⟨rfl, trivial⟩⟩ (jp63 () h)
        · rw [if_neg c26] at h
          refine rjt (a := (63, [(1, .int r10), (0, .ref 0)], [])) (b := (54, [(1, .int r10), (0, .ref 0)], [])) rfl rfl c26 ?_
          exact rsub [(0, .ref 0), (1, .int r10)] ⟨rfl, ⟨rfl, trivial⟩⟩ ⟨rfl, ⟨rfl, trivial⟩⟩ (jp63 () h)
      · rw [if_neg c9] at h
        refine rjf (a := (43, [(0, .ref 0)], [])) (b := (38, [(0, .ref 0)], [])) rfl rfl c9 ?_
        refine rsn 1 (t := (39, [(0, .ref 0)], [.ref 0])) rfl ?_
        obtain ⟨r29, m29, g29, h⟩ := b2_some h
        refine rcV 167 0 [] rfl rfl rfl (hSh.k 0 rfl _) (Nat.le_of_ble_eq_true rfl) rfl (e_Mo_dayLine N (by omega) hSh g29) ?_
        show RN xs L al (Ev xs L al d) 151 42 [(0, .ref 0)] [.int r29] (m29, S) (some (.int r0)) (mf, S)
        obtain ⟨c30, h⟩ := ck_some h
        cases h
        exact rret rfl ⟨rfl, rfl, _, _, rfl, rfl, rfl, nz_of c30⟩
    · rw [if_neg c7] at h
      refine rjf (a := (29, [(0, .ref 0)], [])) (b := (18, [(0, .ref 0)], [])) rfl rfl c7 ?_
      refine rsn 2 (t := (20, [(0, .ref 0)], [.ref 0, .ref 0])) rfl ?_
      refine rm (st1 := [.retAddr 1, .ref 0, .ref 0]) rfl ⟨rfl, rfl, 1, rfl, rfl⟩ ?_
      obtain ⟨r31, g31, h⟩ := b1_some h
      refine rcV 152 0 [.retAddr 1] rfl rfl rfl (hSh.k 0 rfl _) (Nat.le_of_ble_eq_true rfl) rfl (e_Mo_isWord N (by omega) hSh (by decide) g31) ?_
      show RN xs L al (Ev xs L al d) 151 25 [(0, .ref 0)] [.int r31, .ref 0] (m, S) (some (.int r0)) (mf, S)
      obtain ⟨r32, m32, g32, h⟩ := b2_some h
      refine rcV 161 0 [.int r31] rfl rfl rfl (hSh.k 0 rfl _) (Nat.le_of_ble_eq_true rfl) rfl (e_Mo_heirLine N (by omega) hSh g32) ?_
      show RN xs L al (Ev xs L al d) 151 28 [(0, .ref 0)] [.int r32] (m32, S) (some (.int r0)) (mf, S)
      obtain ⟨c33, h⟩ := ck_some h
      cases h
      exact rret rfl ⟨rfl, rfl, _, _, rfl, rfl, rfl, nz_of c33⟩
  · rw [if_neg c2] at h
    refine rjt (a := (18, [(0, .ref 0)], [])) (b := (9, [(0, .ref 0)], [])) rfl rfl c2 ?_
    refine rsn 2 (t := (20, [(0, .ref 0)], [.ref 0, .ref 0])) rfl ?_
    refine rm (st1 := [.retAddr 1, .ref 0, .ref 0]) rfl ⟨rfl, rfl, 1, rfl, rfl⟩ ?_
    obtain ⟨r3, g3, h⟩ := b1_some h
    refine rcV 152 0 [.retAddr 1] rfl rfl rfl (hSh.k 0 rfl _) (Nat.le_of_ble_eq_true rfl) rfl (e_Mo_isWord N (by omega) hSh (by decide) g3) ?_
    show RN xs L al (Ev xs L al d) 151 25 [(0, .ref 0)] [.int r3, .ref 0] (m, S) (some (.int r0)) (mf, S)
    obtain ⟨r4, m4, g4, h⟩ := b2_some h
    refine rcV 161 0 [.int r3] rfl rfl rfl (hSh.k 0 rfl _) (Nat.le_of_ble_eq_true rfl) rfl (e_Mo_heirLine N (by omega) hSh g4) ?_
    show RN xs L al (Ev xs L al d) 151 28 [(0, .ref 0)] [.int r4] (m4, S) (some (.int r0)) (mf, S)
    obtain ⟨c5, h⟩ := ck_some h
    cases h
    exact rret rfl ⟨rfl, rfl, _, _, rfl, rfl, rfl, nz_of c5⟩
def f_Mo_fault_L29 (N : Nat) (k29 : Mm → Option (Int32 × Mm)) : Nat → Mm → Option (Int32 × Mm)
  | 0, _ => none
  | n29 + 1, m => f_Mo_fault_L29 N k29 n29 m
def f_Mo_fault_L50 (N : Nat) (m : Mm) (k50 : Int32 → Option (Int32 × Mm)) : Nat → Int32 → Option (Int32 × Mm)
  | 0, _ => none
  | n50 + 1, x1 => f_Mo_fault_L50 N m k50 n50 x1
def f_Mo_fault (N : Nat) (m : Mm) : Option (Int32 × Mm) := b3 (f_Mo_next N (vI (vI (vI (vI (vI m 0 6 0) 0 10 0) 0 13 ((-1))) 0 14 ((-1))) 0 2 0)) fun m1 => f_Mo_fault_L29 N (fun (m2 : Mm) => f_Mo_fault_L50 N m2 (fun (z3_1 : Int32) => some ((mI m2 0 4), m2)) N 0) N m1
set_option maxRecDepth 20000 in
set_option maxHeartbeats 4000000 in
theorem e_Mo_fault {xs : Nat → Int32} {L : Nat} {al : Bool} (N : Nat) {d : Nat} (hd : 11 ≤ d) {S : St} (hSh : ShR S) {m : Mm} {r0 : Int32} {mf : Mm} (h : f_Mo_fault N m = some (r0, mf)) : Ev xs L al d 147 [.ref 0] (m, S) (some (.int r0)) (mf, S) := by
  obtain ⟨d, rfl⟩ : ∃ e, d = e + 1 := ⟨d - 1, by omega⟩
  refine ev_of (by decide) (Nat.le_of_ble_eq_true rfl) ?_
  rw [f_Mo_fault] at h
  show RN xs L al (Ev xs L al d) 147 0 [(0, .ref 0)] [] (m, S) (some (.int r0)) (mf, S)
  refine rsn 2 (t := (2, [(0, .ref 0)], [.int 0, .ref 0])) rfl ?_
  refine ppI rfl rfl rfl rfl (hSh.k 0 rfl _) ?_
  refine rsn 2 (t := (7, [(0, .ref 0)], [.int 0, .ref 0])) rfl ?_
  refine ppI rfl rfl rfl rfl (hSh.k 0 rfl _) ?_
  refine rsn 2 (t := (12, [(0, .ref 0)], [.int ((-1)), .ref 0])) rfl ?_
  refine ppI rfl rfl rfl rfl (hSh.k 0 rfl _) ?_
  refine rsn 2 (t := (17, [(0, .ref 0)], [.int ((-1)), .ref 0])) rfl ?_
  refine ppI rfl rfl rfl rfl (hSh.k 0 rfl _) ?_
  refine rsn 2 (t := (22, [(0, .ref 0)], [.int 0, .ref 0])) rfl ?_
  refine ppI rfl rfl rfl rfl (hSh.k 0 rfl _) ?_
  refine rsn 1 (t := (26, [(0, .ref 0)], [.ref 0])) rfl ?_
  obtain ⟨m1, g1, h⟩ := b3_some h
  refine rcV 148 0 [] rfl rfl rfl (hSh.k 0 rfl _) (Nat.le_of_ble_eq_true rfl) rfl (e_Mo_next N (by omega) hSh g1) ?_
  show RN xs L al (Ev xs L al d) 147 29 [(0, .ref 0)] [] (m1, S) (some (.int r0)) (mf, S)
  have ex29 : ∀ (m2 : Mm), (f_Mo_fault_L50 N m2 (fun (z3_1 : Int32) => some ((mI m2 0 4), m2)) N 0) = some (r0, mf) → RN xs L al (Ev xs L al d) 147 48 [(0, .ref 0)] [] (m2, S) (some (.int r0)) (mf, S) := by
    intro m2 h
    try dsimp only at h
    refine rsn 2 (t := (50, [(1, .int 0), (0, .ref 0)], [])) rfl ?_
    have ex50 : ∀ (z3_1 : Int32), (some ((mI m2 0 4), m2)) = some (r0, mf) → RN xs L al (Ev xs L al d) 147 75 [(0, .ref 0)] [] (m2, S) (some (.int r0)) (mf, S) := by
      intro z3_1 h
      try dsimp only at h
      refine rsn 1 (t := (76, [(0, .ref 0)], [.ref 0])) rfl ?_
      refine pgI rfl rfl rfl (hSh.k 0 rfl _) ?_
      show RN xs L al (Ev xs L al d) 147 79 [(0, .ref 0)] [.int ((mI m2 0 4))] (m2, S) (some (.int r0)) (mf, S)
      cases h
      exact rret rfl ⟨rfl, rfl, _, _, rfl, rfl, rfl, rfl⟩
    have lp50 : ∀ (n : Nat) (y4_1 : Int32), (f_Mo_fault_L50 N m2 (fun (z3_1 : Int32) => some ((mI m2 0 4), m2)) n y4_1) = some (r0, mf) → RN xs L al (Ev xs L al d) 147 50 [(0, .ref 0), (1, .int y4_1)] [] (m2, S) (some (.int r0)) (mf, S) := by
      intro n
      induction n with
      | zero => intro y4_1 h; exact absurd h (by simp [f_Mo_fault_L50])
      | succ n50 ih50 =>
        intro y4_1 h
        try dsimp only at h
        rw [f_Mo_fault_L50] at h
        try dsimp only at h
        exact rsub [(0, .ref 0), (1, .int y4_1)] ⟨rfl, ⟨rfl, trivial⟩⟩ ⟨rfl, ⟨rfl, trivial⟩⟩ (ih50 y4_1 h)
    exact rsub [(0, .ref 0), (1, .int 0)] ⟨rfl, ⟨rfl, trivial⟩⟩ ⟨rfl, ⟨rfl, trivial⟩⟩ (lp50 N 0 h)
  have lp29 : ∀ (n : Nat) (m5 : Mm), (f_Mo_fault_L29 N (fun (m2 : Mm) => f_Mo_fault_L50 N m2 (fun (z3_1 : Int32) => some ((mI m2 0 4), m2)) N 0) n m5) = some (r0, mf) → RN xs L al (Ev xs L al d) 147 29 [(0, .ref 0)] [] (m5, S) (some (.int r0)) (mf, S) := by
    intro n
    induction n with
    | zero => intro m5 h; exact absurd h (by simp [f_Mo_fault_L29])
    | succ n29 ih29 =>
      intro m5 h
      try dsimp only at h
      rw [f_Mo_fault_L29] at h
      try dsimp only at h
      exact rsub [(0, .ref 0)] ⟨rfl, trivial⟩ ⟨rfl, trivial⟩ (ih29 m5 h)
  exact rsub [(0, .ref 0)] ⟨rfl, trivial⟩ ⟨rfl, trivial⟩ (lp29 N m1 h)
def f_Mo_forgets_L7 (N : Nat) (k7 : Int32 → Mm → Option (Mm)) : Nat → Int32 → Mm → Option (Mm)
  | 0, _, _ => none
  | n7 + 1, x1, m => f_Mo_forgets_L7 N k7 n7 x1 m
def f_Mo_forgets (N : Nat) (m : Mm) : Option (Mm) := f_Mo_forgets_L7 N (fun (z1_1 : Int32) (m1 : Mm) => some m1) N 0 (vI m 0 33 0)
set_option maxRecDepth 20000 in
set_option maxHeartbeats 4000000 in
theorem e_Mo_forgets {xs : Nat → Int32} {L : Nat} {al : Bool} (N : Nat) {d : Nat} (hd : 1 ≤ d) {S : St} (hSh : ShR S) {m : Mm} {mf : Mm} (h : f_Mo_forgets N m = some mf) : Ev xs L al d 170 [.ref 0] (m, S) none (mf, S) := by
  obtain ⟨d, rfl⟩ : ∃ e, d = e + 1 := ⟨d - 1, by omega⟩
  refine ev_of (by decide) (Nat.le_of_ble_eq_true rfl) ?_
  rw [f_Mo_forgets] at h
  show RN xs L al (Ev xs L al d) 170 0 [(0, .ref 0)] [] (m, S) none (mf, S)
  refine rsn 2 (t := (2, [(0, .ref 0)], [.int 0, .ref 0])) rfl ?_
  refine ppI rfl rfl rfl rfl (hSh.k 0 rfl _) ?_
  refine rsn 2 (t := (7, [(1, .int 0), (0, .ref 0)], [])) rfl ?_
  have ex7 : ∀ (z1_1 : Int32) (m1 : Mm), (some m1) = some mf → RN xs L al (Ev xs L al d) 170 26 [] [] (m1, S) none (mf, S) := by
    intro z1_1 m1 h
    try dsimp only at h
    cases h
    exact rret rfl ⟨rfl, rfl, rfl, rfl, rfl⟩
  have lp7 : ∀ (n : Nat) (y2_1 : Int32) (m2 : Mm), (f_Mo_forgets_L7 N (fun (z1_1 : Int32) (m1 : Mm) => some m1) n y2_1 m2) = some mf → RN xs L al (Ev xs L al d) 170 7 [(0, .ref 0), (1, .int y2_1)] [] (m2, S) none (mf, S) := by
    intro n
    induction n with
    | zero => intro y2_1 m2 h; exact absurd h (by simp [f_Mo_forgets_L7])
    | succ n7 ih7 =>
      intro y2_1 m2 h
      try dsimp only at h
      rw [f_Mo_forgets_L7] at h
      try dsimp only at h
      exact rsub [(0, .ref 0), (1, .int y2_1)] ⟨rfl, ⟨rfl, trivial⟩⟩ ⟨rfl, ⟨rfl, trivial⟩⟩ (ih7 y2_1 m2 h)
  exact rsub [(0, .ref 0), (1, .int 0)] ⟨rfl, ⟨rfl, trivial⟩⟩ ⟨rfl, ⟨rfl, trivial⟩⟩ (lp7 N 0 (vI m 0 33 0) h)
def f_Mo_matter_L78 (N : Nat) (k78 : Int32 → Mm → Option (Int32 × Mm)) : Nat → Int32 → Mm → Option (Int32 × Mm)
  | 0, _, _ => none
  | n78 + 1, x1, m => f_Mo_matter_L78 N k78 n78 x1 m
def f_Mo_matter_L118 (N : Nat) (k118 : Int32 → Mm → Option (Int32 × Mm)) : Nat → Int32 → Mm → Option (Int32 × Mm)
  | 0, _, _ => none
  | n118 + 1, x1, m => f_Mo_matter_L118 N k118 n118 x1 m
def f_Mo_matter_L144 (N : Nat) (k144 : Int32 → Mm → Option (Int32 × Mm)) : Nat → Int32 → Mm → Option (Int32 × Mm)
  | 0, _, _ => none
  | n144 + 1, x1, m => f_Mo_matter_L144 N k144 n144 x1 m
def f_Mo_matter_L170 (N : Nat) (k170 : Int32 → Mm → Option (Int32 × Mm)) : Nat → Int32 → Mm → Option (Int32 × Mm)
  | 0, _, _ => none
  | n170 + 1, x1, m => f_Mo_matter_L170 N k170 n170 x1 m
def f_Mo_matter_L199 (N : Nat) (k199 : Int32 → Mm → Option (Int32 × Mm)) : Nat → Int32 → Mm → Option (Int32 × Mm)
  | 0, _, _ => none
  | n199 + 1, x1, m => f_Mo_matter_L199 N k199 n199 x1 m
def f_Mo_matter (N : Nat) (m : Mm) : Option (Int32 × Mm) := b2 (f_Mo_fault N m) fun r1 m1 => (if r1 = ((-1)) then (jn (fun (s3 : Int32) => (jn (fun (s4 : Int32) => f_Mo_matter_L78 N (fun (z5_1 : Int32) (m5 : Mm) => f_Mo_matter_L118 N (fun (z6_1 : Int32) (m6 : Mm) => f_Mo_matter_L144 N (fun (z7_1 : Int32) (m7 : Mm) => f_Mo_matter_L170 N (fun (z8_1 : Int32) (m8 : Mm) => f_Mo_matter_L199 N (fun (z9_1 : Int32) (m9 : Mm) => b3 (f_Mo_forgets N (vI (vI (vI m9 0 24 0) 0 25 ((-1))) 0 1 0)) fun m10 => some ((mI m10 0 16), m10)) N 0 m8) N 0 m7) N 0 m6) N 0 m5) N 0 (vJ (vI (vI (vI (vI (vI m1 0 15 1) 0 16 ((mI m1 0 6))) 0 18 ((mI m1 0 10))) 0 21 s3) 0 22 s4) 0 23 0)) (fun j68 => if ((mI m1 0 14)) = ((-1)) then j68 0 else j68 ((mI m1 0 14))))) (fun j48 => if ((mI m1 0 13)) = ((-1)) then j48 0 else j48 ((mI m1 0 13)))) else some ((-1), m1))
set_option maxRecDepth 20000 in
set_option maxHeartbeats 4000000 in
theorem e_Mo_matter {xs : Nat → Int32} {L : Nat} {al : Bool} (N : Nat) {d : Nat} (hd : 12 ≤ d) {S : St} (hSh : ShR S) {m : Mm} {r0 : Int32} {mf : Mm} (h : f_Mo_matter N m = some (r0, mf)) : Ev xs L al d 169 [.ref 0] (m, S) (some (.int r0)) (mf, S) := by
  obtain ⟨d, rfl⟩ : ∃ e, d = e + 1 := ⟨d - 1, by omega⟩
  refine ev_of (by decide) (Nat.le_of_ble_eq_true rfl) ?_
  rw [f_Mo_matter] at h
  show RN xs L al (Ev xs L al d) 169 0 [(0, .ref 0)] [] (m, S) (some (.int r0)) (mf, S)
  refine rsn 1 (t := (1, [(0, .ref 0)], [.ref 0])) rfl ?_
  obtain ⟨r1, m1, g1, h⟩ := b2_some h
  refine rcV 147 0 [] rfl rfl rfl (hSh.k 0 rfl _) (Nat.le_of_ble_eq_true rfl) rfl (e_Mo_fault N (by omega) hSh g1) ?_
  show RN xs L al (Ev xs L al d) 169 4 [(0, .ref 0)] [.int r1] (m1, S) (some (.int r0)) (mf, S)
  refine rsn 1 (t := (5, [(0, .ref 0)], [.int ((-1)), .int r1])) rfl ?_
  by_cases c2 : r1 = ((-1))
  · rw [if_pos c2] at h
    refine rjt (a := (10, [(0, .ref 0)], [])) (b := (8, [(0, .ref 0)], [])) rfl rfl c2 ?_
    refine rsn 2 (t := (12, [(0, .ref 0)], [.int 1, .ref 0])) rfl ?_
    refine ppZ rfl rfl rfl rfl (hSh.k 0 rfl _) (Or.inr rfl) ?_
    refine rsn 2 (t := (17, [(0, .ref 0)], [.ref 0, .ref 0])) rfl ?_
    refine pgI rfl rfl rfl (hSh.k 0 rfl _) ?_
    show RN xs L al (Ev xs L al d) 169 20 [(0, .ref 0)] [.int ((mI m1 0 6)), .ref 0] ((vI m1 0 15 1), S) (some (.int r0)) (mf, S)
    refine ppI rfl rfl rfl rfl (hSh.k 0 rfl _) ?_
    refine rsn 2 (t := (25, [(0, .ref 0)], [.ref 0, .ref 0])) rfl ?_
    refine pgI rfl rfl rfl (hSh.k 0 rfl _) ?_
    show RN xs L al (Ev xs L al d) 169 28 [(0, .ref 0)] [.int ((mI m1 0 10)), .ref 0] ((vI (vI m1 0 15 1) 0 16 ((mI m1 0 6))), S) (some (.int r0)) (mf, S)
    refine ppI rfl rfl rfl rfl (hSh.k 0 rfl _) ?_
    refine rsn 2 (t := (33, [(0, .ref 0)], [.ref 0, .ref 0])) rfl ?_
    refine pgI rfl rfl rfl (hSh.k 0 rfl _) ?_
    show RN xs L al (Ev xs L al d) 169 36 [(0, .ref 0)] [.int ((mI m1 0 13)), .ref 0] ((vI (vI (vI m1 0 15 1) 0 16 ((mI m1 0 6))) 0 18 ((mI m1 0 10))), S) (some (.int r0)) (mf, S)
    refine rsn 1 (t := (37, [(0, .ref 0)], [.int ((-1)), .int ((mI m1 0 13)), .ref 0])) rfl ?_
    have jp48 : ∀ (s3 : Int32), ((jn (fun (s4 : Int32) => f_Mo_matter_L78 N (fun (z5_1 : Int32) (m5 : Mm) => f_Mo_matter_L118 N (fun (z6_1 : Int32) (m6 : Mm) => f_Mo_matter_L144 N (fun (z7_1 : Int32) (m7 : Mm) => f_Mo_matter_L170 N (fun (z8_1 : Int32) (m8 : Mm) => f_Mo_matter_L199 N (fun (z9_1 : Int32) (m9 : Mm) => b3 (f_Mo_forgets N (vI (vI (vI m9 0 24 0) 0 25 ((-1))) 0 1 0)) fun m10 => some ((mI m10 0 16), m10)) N 0 m8) N 0 m7) N 0 m6) N 0 m5) N 0 (vJ (vI (vI (vI (vI (vI m1 0 15 1) 0 16 ((mI m1 0 6))) 0 18 ((mI m1 0 10))) 0 21 s3) 0 22 s4) 0 23 0)) (fun j68 => if ((mI m1 0 14)) = ((-1)) then j68 0 else j68 ((mI m1 0 14))))) = some (r0, mf) → RN xs L al (Ev xs L al d) 169 48 [(0, .ref 0)] [.int s3, .ref 0] ((vI (vI (vI m1 0 15 1) 0 16 ((mI m1 0 6))) 0 18 ((mI m1 0 10))), S) (some (.int r0)) (mf, S) := by
      intro s3 h
      try dsimp only at h
      refine ppI rfl rfl rfl rfl (hSh.k 0 rfl _) ?_
      refine rsn 2 (t := (53, [(0, .ref 0)], [.ref 0, .ref 0])) rfl ?_
      refine pgI rfl rfl rfl (hSh.k 0 rfl _) ?_
      show RN xs L al (Ev xs L al d) 169 56 [(0, .ref 0)] [.int ((mI m1 0 14)), .ref 0] ((vI (vI (vI (vI m1 0 15 1) 0 16 ((mI m1 0 6))) 0 18 ((mI m1 0 10))) 0 21 s3), S) (some (.int r0)) (mf, S)
      refine rsn 1 (t := (57, [(0, .ref 0)], [.int ((-1)), .int ((mI m1 0 14)), .ref 0])) rfl ?_
      have jp68 : ∀ (s4 : Int32), (f_Mo_matter_L78 N (fun (z5_1 : Int32) (m5 : Mm) => f_Mo_matter_L118 N (fun (z6_1 : Int32) (m6 : Mm) => f_Mo_matter_L144 N (fun (z7_1 : Int32) (m7 : Mm) => f_Mo_matter_L170 N (fun (z8_1 : Int32) (m8 : Mm) => f_Mo_matter_L199 N (fun (z9_1 : Int32) (m9 : Mm) => b3 (f_Mo_forgets N (vI (vI (vI m9 0 24 0) 0 25 ((-1))) 0 1 0)) fun m10 => some ((mI m10 0 16), m10)) N 0 m8) N 0 m7) N 0 m6) N 0 m5) N 0 (vJ (vI (vI (vI (vI (vI m1 0 15 1) 0 16 ((mI m1 0 6))) 0 18 ((mI m1 0 10))) 0 21 s3) 0 22 s4) 0 23 0)) = some (r0, mf) → RN xs L al (Ev xs L al d) 169 68 [(0, .ref 0)] [.int s4, .ref 0] ((vI (vI (vI (vI m1 0 15 1) 0 16 ((mI m1 0 6))) 0 18 ((mI m1 0 10))) 0 21 s3), S) (some (.int r0)) (mf, S) := by
        intro s4 h
        try dsimp only at h
        refine ppI rfl rfl rfl rfl (hSh.k 0 rfl _) ?_
        refine rsn 2 (t := (73, [(0, .ref 0)], [.long 0, .ref 0])) rfl ?_
        refine ppJ rfl rfl rfl rfl (hSh.k 0 rfl _) ?_
        refine rsn 2 (t := (78, [(1, .int 0), (0, .ref 0)], [])) rfl ?_
        have ex78 : ∀ (z5_1 : Int32) (m5 : Mm), (f_Mo_matter_L118 N (fun (z6_1 : Int32) (m6 : Mm) => f_Mo_matter_L144 N (fun (z7_1 : Int32) (m7 : Mm) => f_Mo_matter_L170 N (fun (z8_1 : Int32) (m8 : Mm) => f_Mo_matter_L199 N (fun (z9_1 : Int32) (m9 : Mm) => b3 (f_Mo_forgets N (vI (vI (vI m9 0 24 0) 0 25 ((-1))) 0 1 0)) fun m10 => some ((mI m10 0 16), m10)) N 0 m8) N 0 m7) N 0 m6) N 0 m5) = some (r0, mf) → RN xs L al (Ev xs L al d) 169 116 [(0, .ref 0)] [] (m5, S) (some (.int r0)) (mf, S) := by
          intro z5_1 m5 h
          try dsimp only at h
          refine rsn 2 (t := (118, [(1, .int 0), (0, .ref 0)], [])) rfl ?_
          have ex118 : ∀ (z6_1 : Int32) (m6 : Mm), (f_Mo_matter_L144 N (fun (z7_1 : Int32) (m7 : Mm) => f_Mo_matter_L170 N (fun (z8_1 : Int32) (m8 : Mm) => f_Mo_matter_L199 N (fun (z9_1 : Int32) (m9 : Mm) => b3 (f_Mo_forgets N (vI (vI (vI m9 0 24 0) 0 25 ((-1))) 0 1 0)) fun m10 => some ((mI m10 0 16), m10)) N 0 m8) N 0 m7) N 0 m6) = some (r0, mf) → RN xs L al (Ev xs L al d) 169 142 [(0, .ref 0)] [] (m6, S) (some (.int r0)) (mf, S) := by
            intro z6_1 m6 h
            try dsimp only at h
            refine rsn 2 (t := (144, [(1, .int 0), (0, .ref 0)], [])) rfl ?_
            have ex144 : ∀ (z7_1 : Int32) (m7 : Mm), (f_Mo_matter_L170 N (fun (z8_1 : Int32) (m8 : Mm) => f_Mo_matter_L199 N (fun (z9_1 : Int32) (m9 : Mm) => b3 (f_Mo_forgets N (vI (vI (vI m9 0 24 0) 0 25 ((-1))) 0 1 0)) fun m10 => some ((mI m10 0 16), m10)) N 0 m8) N 0 m7) = some (r0, mf) → RN xs L al (Ev xs L al d) 169 168 [(0, .ref 0)] [] (m7, S) (some (.int r0)) (mf, S) := by
              intro z7_1 m7 h
              try dsimp only at h
              refine rsn 2 (t := (170, [(1, .int 0), (0, .ref 0)], [])) rfl ?_
              have ex170 : ∀ (z8_1 : Int32) (m8 : Mm), (f_Mo_matter_L199 N (fun (z9_1 : Int32) (m9 : Mm) => b3 (f_Mo_forgets N (vI (vI (vI m9 0 24 0) 0 25 ((-1))) 0 1 0)) fun m10 => some ((mI m10 0 16), m10)) N 0 m8) = some (r0, mf) → RN xs L al (Ev xs L al d) 169 197 [(0, .ref 0)] [] (m8, S) (some (.int r0)) (mf, S) := by
                intro z8_1 m8 h
                try dsimp only at h
                refine rsn 2 (t := (199, [(1, .int 0), (0, .ref 0)], [])) rfl ?_
                have ex199 : ∀ (z9_1 : Int32) (m9 : Mm), (b3 (f_Mo_forgets N (vI (vI (vI m9 0 24 0) 0 25 ((-1))) 0 1 0)) fun m10 => some ((mI m10 0 16), m10)) = some (r0, mf) → RN xs L al (Ev xs L al d) 169 217 [(0, .ref 0)] [] (m9, S) (some (.int r0)) (mf, S) := by
                  intro z9_1 m9 h
                  try dsimp only at h
                  refine rsn 2 (t := (219, [(0, .ref 0)], [.int 0, .ref 0])) rfl ?_
                  refine ppI rfl rfl rfl rfl (hSh.k 0 rfl _) ?_
                  refine rsn 2 (t := (224, [(0, .ref 0)], [.int ((-1)), .ref 0])) rfl ?_
                  refine ppI rfl rfl rfl rfl (hSh.k 0 rfl _) ?_
                  refine rsn 2 (t := (229, [(0, .ref 0)], [.int 0, .ref 0])) rfl ?_
                  refine ppI rfl rfl rfl rfl (hSh.k 0 rfl _) ?_
                  refine rsn 1 (t := (233, [(0, .ref 0)], [.ref 0])) rfl ?_
                  obtain ⟨m10, g10, h⟩ := b3_some h
                  refine rcV 170 0 [] rfl rfl rfl (hSh.k 0 rfl _) (Nat.le_of_ble_eq_true rfl) rfl (e_Mo_forgets N (by omega) hSh g10) ?_
                  show RN xs L al (Ev xs L al d) 169 236 [(0, .ref 0)] [] (m10, S) (some (.int r0)) (mf, S)
                  refine rsn 1 (t := (237, [(0, .ref 0)], [.ref 0])) rfl ?_
                  refine pgI rfl rfl rfl (hSh.k 0 rfl _) ?_
                  show RN xs L al (Ev xs L al d) 169 240 [(0, .ref 0)] [.int ((mI m10 0 16))] (m10, S) (some (.int r0)) (mf, S)
                  cases h
                  exact rret rfl ⟨rfl, rfl, _, _, rfl, rfl, rfl, rfl⟩
                have lp199 : ∀ (n : Nat) (y11_1 : Int32) (m11 : Mm), (f_Mo_matter_L199 N (fun (z9_1 : Int32) (m9 : Mm) => b3 (f_Mo_forgets N (vI (vI (vI m9 0 24 0) 0 25 ((-1))) 0 1 0)) fun m10 => some ((mI m10 0 16), m10)) n y11_1 m11) = some (r0, mf) → RN xs L al (Ev xs L al d) 169 199 [(0, .ref 0), (1, .int y11_1)] [] (m11, S) (some (.int r0)) (mf, S) := by
                  intro n
                  induction n with
                  | zero => intro y11_1 m11 h; exact absurd h (by simp [f_Mo_matter_L199])
                  | succ n199 ih199 =>
                    intro y11_1 m11 h
                    try dsimp only at h
                    rw [f_Mo_matter_L199] at h
                    try dsimp only at h
                    exact rsub [(0, .ref 0), (1, .int y11_1)] ⟨rfl, ⟨rfl, trivial⟩⟩ ⟨rfl, ⟨rfl, trivial⟩⟩ (ih199 y11_1 m11 h)
                exact rsub [(0, .ref 0), (1, .int 0)] ⟨rfl, ⟨rfl, trivial⟩⟩ ⟨rfl, ⟨rfl, trivial⟩⟩ (lp199 N 0 m8 h)
              have lp170 : ∀ (n : Nat) (y12_1 : Int32) (m12 : Mm), (f_Mo_matter_L170 N (fun (z8_1 : Int32) (m8 : Mm) => f_Mo_matter_L199 N (fun (z9_1 : Int32) (m9 : Mm) => b3 (f_Mo_forgets N (vI (vI (vI m9 0 24 0) 0 25 ((-1))) 0 1 0)) fun m10 => some ((mI m10 0 16), m10)) N 0 m8) n y12_1 m12) = some (r0, mf) → RN xs L al (Ev xs L al d) 169 170 [(0, .ref 0), (1, .int y12_1)] [] (m12, S) (some (.int r0)) (mf, S) := by
                intro n
                induction n with
                | zero => intro y12_1 m12 h; exact absurd h (by simp [f_Mo_matter_L170])
                | succ n170 ih170 =>
                  intro y12_1 m12 h
                  try dsimp only at h
                  rw [f_Mo_matter_L170] at h
                  try dsimp only at h
                  exact rsub [(0, .ref 0), (1, .int y12_1)] ⟨rfl, ⟨rfl, trivial⟩⟩ ⟨rfl, ⟨rfl, trivial⟩⟩ (ih170 y12_1 m12 h)
              exact rsub [(0, .ref 0), (1, .int 0)] ⟨rfl, ⟨rfl, trivial⟩⟩ ⟨rfl, ⟨rfl, trivial⟩⟩ (lp170 N 0 m7 h)
            have lp144 : ∀ (n : Nat) (y13_1 : Int32) (m13 : Mm), (f_Mo_matter_L144 N (fun (z7_1 : Int32) (m7 : Mm) => f_Mo_matter_L170 N (fun (z8_1 : Int32) (m8 : Mm) => f_Mo_matter_L199 N (fun (z9_1 : Int32) (m9 : Mm) => b3 (f_Mo_forgets N (vI (vI (vI m9 0 24 0) 0 25 ((-1))) 0 1 0)) fun m10 => some ((mI m10 0 16), m10)) N 0 m8) N 0 m7) n y13_1 m13) = some (r0, mf) → RN xs L al (Ev xs L al d) 169 144 [(0, .ref 0), (1, .int y13_1)] [] (m13, S) (some (.int r0)) (mf, S) := by
              intro n
              induction n with
              | zero => intro y13_1 m13 h; exact absurd h (by simp [f_Mo_matter_L144])
              | succ n144 ih144 =>
                intro y13_1 m13 h
                try dsimp only at h
                rw [f_Mo_matter_L144] at h
                try dsimp only at h
                exact rsub [(0, .ref 0), (1, .int y13_1)] ⟨rfl, ⟨rfl, trivial⟩⟩ ⟨rfl, ⟨rfl, trivial⟩⟩ (ih144 y13_1 m13 h)
            exact rsub [(0, .ref 0), (1, .int 0)] ⟨rfl, ⟨rfl, trivial⟩⟩ ⟨rfl, ⟨rfl, trivial⟩⟩ (lp144 N 0 m6 h)
          have lp118 : ∀ (n : Nat) (y14_1 : Int32) (m14 : Mm), (f_Mo_matter_L118 N (fun (z6_1 : Int32) (m6 : Mm) => f_Mo_matter_L144 N (fun (z7_1 : Int32) (m7 : Mm) => f_Mo_matter_L170 N (fun (z8_1 : Int32) (m8 : Mm) => f_Mo_matter_L199 N (fun (z9_1 : Int32) (m9 : Mm) => b3 (f_Mo_forgets N (vI (vI (vI m9 0 24 0) 0 25 ((-1))) 0 1 0)) fun m10 => some ((mI m10 0 16), m10)) N 0 m8) N 0 m7) N 0 m6) n y14_1 m14) = some (r0, mf) → RN xs L al (Ev xs L al d) 169 118 [(0, .ref 0), (1, .int y14_1)] [] (m14, S) (some (.int r0)) (mf, S) := by
            intro n
            induction n with
            | zero => intro y14_1 m14 h; exact absurd h (by simp [f_Mo_matter_L118])
            | succ n118 ih118 =>
              intro y14_1 m14 h
              try dsimp only at h
              rw [f_Mo_matter_L118] at h
              try dsimp only at h
              exact rsub [(0, .ref 0), (1, .int y14_1)] ⟨rfl, ⟨rfl, trivial⟩⟩ ⟨rfl, ⟨rfl, trivial⟩⟩ (ih118 y14_1 m14 h)
          exact rsub [(0, .ref 0), (1, .int 0)] ⟨rfl, ⟨rfl, trivial⟩⟩ ⟨rfl, ⟨rfl, trivial⟩⟩ (lp118 N 0 m5 h)
        have lp78 : ∀ (n : Nat) (y15_1 : Int32) (m15 : Mm), (f_Mo_matter_L78 N (fun (z5_1 : Int32) (m5 : Mm) => f_Mo_matter_L118 N (fun (z6_1 : Int32) (m6 : Mm) => f_Mo_matter_L144 N (fun (z7_1 : Int32) (m7 : Mm) => f_Mo_matter_L170 N (fun (z8_1 : Int32) (m8 : Mm) => f_Mo_matter_L199 N (fun (z9_1 : Int32) (m9 : Mm) => b3 (f_Mo_forgets N (vI (vI (vI m9 0 24 0) 0 25 ((-1))) 0 1 0)) fun m10 => some ((mI m10 0 16), m10)) N 0 m8) N 0 m7) N 0 m6) N 0 m5) n y15_1 m15) = some (r0, mf) → RN xs L al (Ev xs L al d) 169 78 [(0, .ref 0), (1, .int y15_1)] [] (m15, S) (some (.int r0)) (mf, S) := by
          intro n
          induction n with
          | zero => intro y15_1 m15 h; exact absurd h (by simp [f_Mo_matter_L78])
          | succ n78 ih78 =>
            intro y15_1 m15 h
            try dsimp only at h
            rw [f_Mo_matter_L78] at h
            try dsimp only at h
            exact rsub [(0, .ref 0), (1, .int y15_1)] ⟨rfl, ⟨rfl, trivial⟩⟩ ⟨rfl, ⟨rfl, trivial⟩⟩ (ih78 y15_1 m15 h)
        exact rsub [(0, .ref 0), (1, .int 0)] ⟨rfl, ⟨rfl, trivial⟩⟩ ⟨rfl, ⟨rfl, trivial⟩⟩ (lp78 N 0 (vJ (vI (vI (vI (vI (vI m1 0 15 1) 0 16 ((mI m1 0 6))) 0 18 ((mI m1 0 10))) 0 21 s3) 0 22 s4) 0 23 0) h)
      rw [jn] at h
      try dsimp only at h
      by_cases c16 : ((mI m1 0 14)) = ((-1))
      · rw [if_pos c16] at h
        refine rjf (a := (64, [(0, .ref 0)], [.ref 0])) (b := (60, [(0, .ref 0)], [.ref 0])) rfl rfl (fun q => q c16) ?_
        refine rsn 2 (t := (68, [(0, .ref 0)], [.int 0, .ref 0])) rfl ?_
        exact rsub [(0, .ref 0)] ⟨rfl, trivial⟩ ⟨rfl, trivial⟩ (jp68 0 h)
      · rw [if_neg c16] at h
        refine rjt (a := (64, [(0, .ref 0)], [.ref 0])) (b := (60, [(0, .ref 0)], [.ref 0])) rfl rfl c16 ?_
        refine rsn 1 (t := (65, [(0, .ref 0)], [.ref 0, .ref 0])) rfl ?_
        refine pgI rfl rfl rfl (hSh.k 0 rfl _) ?_
        show RN xs L al (Ev xs L al d) 169 68 [(0, .ref 0)] [.int ((mI m1 0 14)), .ref 0] ((vI (vI (vI (vI m1 0 15 1) 0 16 ((mI m1 0 6))) 0 18 ((mI m1 0 10))) 0 21 s3), S) (some (.int r0)) (mf, S)
        exact rsub [(0, .ref 0)] ⟨rfl, trivial⟩ ⟨rfl, trivial⟩ (jp68 ((mI m1 0 14)) h)
    rw [jn] at h
    try dsimp only at h
    by_cases c17 : ((mI m1 0 13)) = ((-1))
    · rw [if_pos c17] at h
      refine rjf (a := (44, [(0, .ref 0)], [.ref 0])) (b := (40, [(0, .ref 0)], [.ref 0])) rfl rfl (fun q => q c17) ?_
      refine rsn 2 (t := (48, [(0, .ref 0)], [.int 0, .ref 0])) rfl ?_
      exact rsub [(0, .ref 0)] ⟨rfl, trivial⟩ ⟨rfl, trivial⟩ (jp48 0 h)
    · rw [if_neg c17] at h
      refine rjt (a := (44, [(0, .ref 0)], [.ref 0])) (b := (40, [(0, .ref 0)], [.ref 0])) rfl rfl c17 ?_
      refine rsn 1 (t := (45, [(0, .ref 0)], [.ref 0, .ref 0])) rfl ?_
      refine pgI rfl rfl rfl (hSh.k 0 rfl _) ?_
      show RN xs L al (Ev xs L al d) 169 48 [(0, .ref 0)] [.int ((mI m1 0 13)), .ref 0] ((vI (vI (vI m1 0 15 1) 0 16 ((mI m1 0 6))) 0 18 ((mI m1 0 10))), S) (some (.int r0)) (mf, S)
      exact rsub [(0, .ref 0)] ⟨rfl, trivial⟩ ⟨rfl, trivial⟩ (jp48 ((mI m1 0 13)) h)
  · rw [if_neg c2] at h
    refine rjf (a := (10, [(0, .ref 0)], [])) (b := (8, [(0, .ref 0)], [])) rfl rfl c2 ?_
    refine rsn 1 (t := (9, [(0, .ref 0)], [.int ((-1))])) rfl ?_
    cases h
    exact rret rfl ⟨rfl, rfl, _, _, rfl, rfl, rfl, rfl⟩
