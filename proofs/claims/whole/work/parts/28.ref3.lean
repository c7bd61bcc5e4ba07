/-! The reference's methods as functions (printed by wip/whole/gen_fun.py). -/
def f_Mo_reached (N : Nat) (x1 : Int32) (m : Mm) : Option (Int32 × Mm) := (if ((mI m 0 15)) = 0 then some ((-2147483648), m) else b1 (f_Mo_isGoal N x1) fun r2 => (if r2 = 0 then some ((-2147483648), m) else (if ((mI m 0 25)) = ((-1)) then (if ((mI m 0 24)) = ((mI m 0 18)) then b2 (f_Mo_ends N ((mJ m 0 23)) x1 ((mI m 0 22)) m) fun r6 m6 => some (r6, m6) else some ((-2147483648), m)) else some ((-2147483648), m))))
set_option maxRecDepth 20000 in
set_option maxHeartbeats 4000000 in
theorem e_Mo_reached {xs : Nat → Int32} {L : Nat} {al : Bool} (N : Nat) {d : Nat} (hd : 8 ≤ d) {S : St} (hSh : ShR S) {x1 : Int32} {m : Mm} {r0 : Int32} {mf : Mm} (h : f_Mo_reached N x1 m = some (r0, mf)) : Ev xs L al d 183 [.ref 0, .int x1] (m, S) (some (.int r0)) (mf, S) := by
  obtain ⟨d, rfl⟩ : ∃ e, d = e + 1 := ⟨d - 1, by omega⟩
  refine ev_of (by decide) (Nat.le_of_ble_eq_true rfl) ?_
  rw [f_Mo_reached] at h
  show RN xs L al (Ev xs L al d) 183 0 [(0, .ref 0), (1, .int x1)] [] (m, S) (some (.int r0)) (mf, S)
  refine rsn 1 (t := (1, [(0, .ref 0), (1, .int x1)], [.ref 0])) rfl ?_
  refine pgI rfl rfl rfl (hSh.k 0 rfl _) ?_
  show RN xs L al (Ev xs L al d) 183 4 [(0, .ref 0), (1, .int x1)] [.int ((mI m 0 15))] (m, S) (some (.int r0)) (mf, S)
  by_cases c1 : ((mI m 0 15)) = 0
  · rw [if_pos c1] at h
    refine rjt (a := (49, [(0, .ref 0), (1, .int x1)], [])) (b := (7, [(0, .ref 0), (1, .int x1)], [])) rfl rfl c1 ?_
    refine rsn 1 (t := (52, [(0, .ref 0), (1, .int x1)], [.int ((-2147483648))])) rfl ?_
    cases h
    exact rret rfl ⟨rfl, rfl, _, _, rfl, rfl, rfl, rfl⟩
  · rw [if_neg c1] at h
    refine rjf (a := (49, [(0, .ref 0), (1, .int x1)], [])) (b := (7, [(0, .ref 0), (1, .int x1)], [])) rfl rfl c1 ?_
    refine rsn 1 (t := (8, [(0, .ref 0), (1, .int x1)], [.int x1])) rfl ?_
    obtain ⟨r2, g2, h⟩ := b1_some h
    refine rcS 184 [.int x1] rfl rfl rfl (Nat.le_of_ble_eq_true rfl) rfl (e_Mo_isGoal N (by omega) g2) ?_
    show RN xs L al (Ev xs L al d) 183 11 [(0, .ref 0), (1, .int x1)] [.int r2] (m, S) (some (.int r0)) (mf, S)
    by_cases c3 : r2 = 0
    · rw [if_pos c3] at h
      refine rjt (a := (49, [(0, .ref 0), (1, .int x1)], [])) (b := (14, [(0, .ref 0), (1, .int x1)], [])) rfl rfl c3 ?_
      refine rsn 1 (t := (52, [(0, .ref 0), (1, .int x1)], [.int ((-2147483648))])) rfl ?_
      cases h
      exact rret rfl ⟨rfl, rfl, _, _, rfl, rfl, rfl, rfl⟩
    · rw [if_neg c3] at h
      refine rjf (a := (49, [(0, .ref 0), (1, .int x1)], [])) (b := (14, [(0, .ref 0), (1, .int x1)], [])) rfl rfl c3 ?_
      refine rsn 1 (t := (15, [(0, .ref 0), (1, .int x1)], [.ref 0])) rfl ?_
      refine pgI rfl rfl rfl (hSh.k 0 rfl _) ?_
      show RN xs L al (Ev xs L al d) 183 18 [(0, .ref 0), (1, .int x1)] [.int ((mI m 0 25))] (m, S) (some (.int r0)) (mf, S)
      refine rsn 1 (t := (19, [(0, .ref 0), (1, .int x1)], [.int ((-1)), .int ((mI m 0 25))])) rfl ?_
      by_cases c4 : ((mI m 0 25)) = ((-1))
      · rw [if_pos c4] at h
        refine rjf (a := (49, [(0, .ref 0), (1, .int x1)], [])) (b := (22, [(0, .ref 0), (1, .int x1)], [])) rfl rfl (fun q => q c4) ?_
        refine rsn 1 (t := (23, [(0, .ref 0), (1, .int x1)], [.ref 0])) rfl ?_
        refine pgI rfl rfl rfl (hSh.k 0 rfl _) ?_
        show RN xs L al (Ev xs L al d) 183 26 [(0, .ref 0), (1, .int x1)] [.int ((mI m 0 24))] (m, S) (some (.int r0)) (mf, S)
        refine rsn 1 (t := (27, [(0, .ref 0), (1, .int x1)], [.ref 0, .int ((mI m 0 24))])) rfl ?_
        refine pgI rfl rfl rfl (hSh.k 0 rfl _) ?_
        show RN xs L al (Ev xs L al d) 183 30 [(0, .ref 0), (1, .int x1)] [.int ((mI m 0 18)), .int ((mI m 0 24))] (m, S) (some (.int r0)) (mf, S)
        by_cases c5 : ((mI m 0 24)) = ((mI m 0 18))
        · rw [if_pos c5] at h
          refine rjf (a := (49, [(0, .ref 0), (1, .int x1)], [])) (b := (33, [(0, .ref 0), (1, .int x1)], [])) rfl rfl (fun q => q c5) ?_
          refine rsn 2 (t := (35, [(0, .ref 0), (1, .int x1)], [.ref 0, .ref 0])) rfl ?_
          refine pgJ rfl rfl rfl (hSh.k 0 rfl _) ?_
          show RN xs L al (Ev xs L al d) 183 38 [(0, .ref 0), (1, .int x1)] [.long ((mJ m 0 23)), .ref 0] (m, S) (some (.int r0)) (mf, S)
          refine rsn 2 (t := (40, [(0, .ref 0), (1, .int x1)], [.ref 0, .int x1, .long ((mJ m 0 23)), .ref 0])) rfl ?_
          refine pgI rfl rfl rfl (hSh.k 0 rfl _) ?_
          show RN xs L al (Ev xs L al d) 183 43 [(0, .ref 0), (1, .int x1)] [.int ((mI m 0 22)), .int x1, .long ((mJ m 0 23)), .ref 0] (m, S) (some (.int r0)) (mf, S)
          obtain ⟨r6, m6, g6, h⟩ := b2_some h
          refine rcV 185 0 [.long ((mJ m 0 23)), .int x1, .int ((mI m 0 22))] rfl rfl rfl (hSh.k 0 rfl _) (Nat.le_of_ble_eq_true rfl) rfl (e_Mo_ends N (by omega) hSh g6) ?_
          show RN xs L al (Ev xs L al d) 183 46 [(0, .ref 0), (1, .int x1)] [.int r6] (m6, S) (some (.int r0)) (mf, S)
          refine rsn 1 (t := (52, [(0, .ref 0), (1, .int x1)], [.int r6])) rfl ?_
          cases h
          exact rret rfl ⟨rfl, rfl, _, _, rfl, rfl, rfl, rfl⟩
        · rw [if_neg c5] at h
          refine rjt (a := (49, [(0, .ref 0), (1, .int x1)], [])) (b := (33, [(0, .ref 0), (1, .int x1)], [])) rfl rfl c5 ?_
          refine rsn 1 (t := (52, [(0, .ref 0), (1, .int x1)], [.int ((-2147483648))])) rfl ?_
          cases h
          exact rret rfl ⟨rfl, rfl, _, _, rfl, rfl, rfl, rfl⟩
      · rw [if_neg c4] at h
        refine rjt (a := (49, [(0, .ref 0), (1, .int x1)], [])) (b := (22, [(0, .ref 0), (1, .int x1)], [])) rfl rfl c4 ?_
        refine rsn 1 (t := (52, [(0, .ref 0), (1, .int x1)], [.int ((-2147483648))])) rfl ?_
        cases h
        exact rret rfl ⟨rfl, rfl, _, _, rfl, rfl, rfl, rfl⟩
def f_Mo_placeOf_L20 (N : Nat) (x1 : Int64) (x3 : Int32) (x4 : Int32) (m : Mm) (k20 : Int32 → Option (Int32)) : Nat → Int32 → Option (Int32)
  | 0, _ => none
  | n20 + 1, x5 => ck (ix x5 524288) ((if ((mX m 20 x5.toNatClampNeg)) = 0 then k20 x5 else ck (ix x5 524288) (ck (ix ((((mX m 20 x5.toNatClampNeg)) - 1)) 160000) ((if ((mYy m 17 (((((mX m 20 x5.toNatClampNeg)) - 1)).toNatClampNeg))) = x1 then ck (ix x5 524288) ((if ((((mX m 20 x5.toNatClampNeg)) - 1)) < x3 then f_Mo_placeOf_L20 N x1 x3 x4 m k20 n20 ((((x5 + 1)) &&& 524287)) else ck (ix x5 524288) ((if ((((mX m 20 x5.toNatClampNeg)) - 1)) < x4 then k20 x5 else f_Mo_placeOf_L20 N x1 x3 x4 m k20 n20 ((((x5 + 1)) &&& 524287)))))) else f_Mo_placeOf_L20 N x1 x3 x4 m k20 n20 ((((x5 + 1)) &&& 524287)))))))
def f_Mo_placeOf (N : Nat) (x1 : Int64) (x3 : Int32) (x4 : Int32) (m : Mm) : Option (Int32) := f_Mo_placeOf_L20 N x1 x3 x4 m (fun (z10_5 : Int32) => some z10_5) N (((lus ((((((((x1 * 31)) + x3.toInt64)) + 1)) * ((-7046029254386353131)))) 45)).toInt32)
set_option maxRecDepth 20000 in
set_option maxHeartbeats 4000000 in
theorem e_Mo_placeOf {xs : Nat → Int32} {L : Nat} {al : Bool} (N : Nat) {d : Nat} (hd : 1 ≤ d) {S : St} (hSh : ShR S) {x1 : Int64} {x3 : Int32} {x4 : Int32} {m : Mm} {r0 : Int32} (h : f_Mo_placeOf N x1 x3 x4 m = some r0) : Ev xs L al d 196 [.ref 0, .long x1, .int x3, .int x4] (m, S) (some (.int r0)) (m, S) := by
  obtain ⟨d, rfl⟩ : ∃ e, d = e + 1 := ⟨d - 1, by omega⟩
  refine ev_of (by decide) (Nat.le_of_ble_eq_true rfl) ?_
  rw [f_Mo_placeOf] at h
  show RN xs L al (Ev xs L al d) 196 0 [(0, .ref 0), (1, .long x1), (3, .int x3), (4, .int x4)] [] (m, S) (some (.int r0)) (m, S)
  refine rsn 11 (t := (16, [(0, .ref 0), (1, .long x1), (3, .int x3), (4, .int x4)], [.int 45, .long ((((((((x1 * 31)) + x3.toInt64)) + 1)) * ((-7046029254386353131))))])) rfl ?_
  refine rsn 1 (t := (17, [(0, .ref 0), (1, .long x1), (3, .int x3), (4, .int x4)], [.long ((lus ((((((((x1 * 31)) + x3.toInt64)) + 1)) * ((-7046029254386353131)))) 45))])) rfl ?_
  refine rsn 2 (t := (20, [(5, .int (((lus ((((((((x1 * 31)) + x3.toInt64)) + 1)) * ((-7046029254386353131)))) 45)).toInt32)), (0, .ref 0), (1, .long x1), (3, .int x3), (4, .int x4)], [])) rfl ?_
  have ex20 : ∀ (z10_5 : Int32), (some z10_5) = some r0 → RN xs L al (Ev xs L al d) 196 89 [(5, .int z10_5)] [] (m, S) (some (.int r0)) (m, S) := by
    intro z10_5 h
    try dsimp only at h
    refine rsn 1 (t := (91, [(5, .int z10_5)], [.int z10_5])) rfl ?_
    cases h
    exact rret rfl ⟨rfl, rfl, _, _, rfl, rfl, rfl, rfl⟩
  have lp20 : ∀ (n : Nat) (y11_5 : Int32), (f_Mo_placeOf_L20 N x1 x3 x4 m (fun (z10_5 : Int32) => some z10_5) n y11_5) = some r0 → RN xs L al (Ev xs L al d) 196 20 [(0, .ref 0), (1, .long x1), (3, .int x3), (4, .int x4), (5, .int y11_5)] [] (m, S) (some (.int r0)) (m, S) := by
    intro n
    induction n with
    | zero => intro y11_5 h; exact absurd h (by simp [f_Mo_placeOf_L20])
    | succ n20 ih20 =>
      intro y11_5 h
      try dsimp only at h
      rw [f_Mo_placeOf_L20] at h
      try dsimp only at h
      refine rsn 1 (t := (21, [(0, .ref 0), (1, .long x1), (3, .int x3), (4, .int x4), (5, .int y11_5)], [.ref 0])) rfl ?_
      refine rgR rfl rfl rfl (hSh.k 0 rfl _) (hSh.r 19 rfl _) ?_
      refine rsn 1 (t := (26, [(0, .ref 0), (1, .long x1), (3, .int x3), (4, .int x4), (5, .int y11_5)], [.int y11_5, .ref 20])) rfl ?_
      obtain ⟨c12, h⟩ := ck_some h
      refine pxI rfl (hSh.k 20 rfl _) (hSh.l 19 rfl _) c12 ?_
      show RN xs L al (Ev xs L al d) 196 27 [(0, .ref 0), (1, .long x1), (3, .int x3), (4, .int x4), (5, .int y11_5)] [.int ((mX m 20 y11_5.toNatClampNeg))] (m, S) (some (.int r0)) (m, S)
      by_cases c13 : ((mX m 20 y11_5.toNatClampNeg)) = 0
      · rw [if_pos c13] at h
        refine rjt (a := (89, [(0, .ref 0), (1, .long x1), (3, .int x3), (4, .int x4), (5, .int y11_5)], [])) (b := (30, [(0, .ref 0), (1, .long x1), (3, .int x3), (4, .int x4), (5, .int y11_5)], [])) rfl rfl c13 ?_
        exact rsub [(5, .int y11_5)] ⟨rfl, trivial⟩ ⟨rfl, trivial⟩ (ex20 y11_5 h)
      · rw [if_neg c13] at h
        refine rjf (a := (89, [(0, .ref 0), (1, .long x1), (3, .int x3), (4, .int x4), (5, .int y11_5)], [])) (b := (30, [(0, .ref 0), (1, .long x1), (3, .int x3), (4, .int x4), (5, .int y11_5)], [])) rfl rfl c13 ?_
        refine rsn 1 (t := (31, [(0, .ref 0), (1, .long x1), (3, .int x3), (4, .int x4), (5, .int y11_5)], [.ref 0])) rfl ?_
        refine rgR rfl rfl rfl (hSh.k 0 rfl _) (hSh.r 16 rfl _) ?_
        refine rsn 1 (t := (35, [(0, .ref 0), (1, .long x1), (3, .int x3), (4, .int x4), (5, .int y11_5)], [.ref 0, .ref 17])) rfl ?_
        refine rgR rfl rfl rfl (hSh.k 0 rfl _) (hSh.r 19 rfl _) ?_
        refine rsn 1 (t := (40, [(0, .ref 0), (1, .long x1), (3, .int x3), (4, .int x4), (5, .int y11_5)], [.int y11_5, .ref 20, .ref 17])) rfl ?_
        obtain ⟨c14, h⟩ := ck_some h
        refine pxI rfl (hSh.k 20 rfl _) (hSh.l 19 rfl _) c14 ?_
        show RN xs L al (Ev xs L al d) 196 41 [(0, .ref 0), (1, .long x1), (3, .int x3), (4, .int x4), (5, .int y11_5)] [.int ((mX m 20 y11_5.toNatClampNeg)), .ref 17] (m, S) (some (.int r0)) (m, S)
        refine rsn 2 (t := (43, [(0, .ref 0), (1, .long x1), (3, .int x3), (4, .int x4), (5, .int y11_5)], [.int ((((mX m 20 y11_5.toNatClampNeg)) - 1)), .ref 17])) rfl ?_
        obtain ⟨c15, h⟩ := ck_some h
        refine pxJ rfl (hSh.k 17 rfl _) (hSh.l 16 rfl _) c15 ?_
        show RN xs L al (Ev xs L al d) 196 44 [(0, .ref 0), (1, .long x1), (3, .int x3), (4, .int x4), (5, .int y11_5)] [.long ((mYy m 17 (((((mX m 20 y11_5.toNatClampNeg)) - 1)).toNatClampNeg)))] (m, S) (some (.int r0)) (m, S)
        refine rsn 2 (t := (46, [(0, .ref 0), (1, .long x1), (3, .int x3), (4, .int x4), (5, .int y11_5)], [.int ((lg_cmp ((mYy m 17 (((((mX m 20 y11_5.toNatClampNeg)) - 1)).toNatClampNeg))) x1))])) rfl ?_
        by_cases c16 : ((mYy m 17 (((((mX m 20 y11_5.toNatClampNeg)) - 1)).toNatClampNeg))) = x1
        · rw [if_pos c16] at h
          refine rjf (a := (76, [(0, .ref 0), (1, .long x1), (3, .int x3), (4, .int x4), (5, .int y11_5)], [])) (b := (49, [(0, .ref 0), (1, .long x1), (3, .int x3), (4, .int x4), (5, .int y11_5)], [])) rfl rfl (fun q => q (lgc_eq.mpr c16)) ?_
          refine rsn 1 (t := (50, [(0, .ref 0), (1, .long x1), (3, .int x3), (4, .int x4), (5, .int y11_5)], [.ref 0])) rfl ?_
          refine rgR rfl rfl rfl (hSh.k 0 rfl _) (hSh.r 19 rfl _) ?_
          refine rsn 1 (t := (55, [(0, .ref 0), (1, .long x1), (3, .int x3), (4, .int x4), (5, .int y11_5)], [.int y11_5, .ref 20])) rfl ?_
          obtain ⟨c17, h⟩ := ck_some h
          refine pxI rfl (hSh.k 20 rfl _) (hSh.l 19 rfl _) c17 ?_
          show RN xs L al (Ev xs L al d) 196 56 [(0, .ref 0), (1, .long x1), (3, .int x3), (4, .int x4), (5, .int y11_5)] [.int ((mX m 20 y11_5.toNatClampNeg))] (m, S) (some (.int r0)) (m, S)
          refine rsn 3 (t := (59, [(0, .ref 0), (1, .long x1), (3, .int x3), (4, .int x4), (5, .int y11_5)], [.int x3, .int ((((mX m 20 y11_5.toNatClampNeg)) - 1))])) rfl ?_
          by_cases c18 : ((((mX m 20 y11_5.toNatClampNeg)) - 1)) < x3
          · rw [if_pos c18] at h
            refine rjt (a := (76, [(0, .ref 0), (1, .long x1), (3, .int x3), (4, .int x4), (5, .int y11_5)], [])) (b := (62, [(0, .ref 0), (1, .long x1), (3, .int x3), (4, .int x4), (5, .int y11_5)], [])) rfl rfl c18 ?_
            refine rsn 7 (t := (20, [(5, .int ((((y11_5 + 1)) &&& 524287))), (0, .ref 0), (1, .long x1), (3, .int x3), (4, .int x4)], [])) rfl ?_
            exact rsub [(0, .ref 0), (1, .long x1), (3, .int x3), (4, .int x4), (5, .int ((((y11_5 + 1)) &&& 524287)))] ⟨rfl, ⟨rfl, ⟨rfl, ⟨rfl, ⟨rfl, trivial⟩⟩⟩⟩⟩ ⟨rfl, ⟨rfl, ⟨rfl, ⟨rfl, ⟨rfl, trivial⟩⟩⟩⟩⟩ (ih20 ((((y11_5 + 1)) &&& 524287)) h)
          · rw [if_neg c18] at h
            refine rjf (a := (76, [(0, .ref 0), (1, .long x1), (3, .int x3), (4, .int x4), (5, .int y11_5)], [])) (b := (62, [(0, .ref 0), (1, .long x1), (3, .int x3), (4, .int x4), (5, .int y11_5)], [])) rfl rfl c18 ?_
            refine rsn 1 (t := (63, [(0, .ref 0), (1, .long x1), (3, .int x3), (4, .int x4), (5, .int y11_5)], [.ref 0])) rfl ?_
            refine rgR rfl rfl rfl (hSh.k 0 rfl _) (hSh.r 19 rfl _) ?_
            refine rsn 1 (t := (68, [(0, .ref 0), (1, .long x1), (3, .int x3), (4, .int x4), (5, .int y11_5)], [.int y11_5, .ref 20])) rfl ?_
            obtain ⟨c19, h⟩ := ck_some h
            refine pxI rfl (hSh.k 20 rfl _) (hSh.l 19 rfl _) c19 ?_
            show RN xs L al (Ev xs L al d) 196 69 [(0, .ref 0), (1, .long x1), (3, .int x3), (4, .int x4), (5, .int y11_5)] [.int ((mX m 20 y11_5.toNatClampNeg))] (m, S) (some (.int r0)) (m, S)
            refine rsn 3 (t := (73, [(0, .ref 0), (1, .long x1), (3, .int x3), (4, .int x4), (5, .int y11_5)], [.int x4, .int ((((mX m 20 y11_5.toNatClampNeg)) - 1))])) rfl ?_
            by_cases c20 : ((((mX m 20 y11_5.toNatClampNeg)) - 1)) < x4
            · rw [if_pos c20] at h
              refine rjt (a := (89, [(0, .ref 0), (1, .long x1), (3, .int x3), (4, .int x4), (5, .int y11_5)], [])) (b := (76, [(0, .ref 0), (1, .long x1), (3, .int x3), (4, .int x4), (5, .int y11_5)], [])) rfl rfl c20 ?_
              exact rsub [(5, .int y11_5)] ⟨rfl, trivial⟩ ⟨rfl, trivial⟩ (ex20 y11_5 h)
            · rw [if_neg c20] at h
              refine rjf (a := (89, [(0, .ref 0), (1, .long x1), (3, .int x3), (4, .int x4), (5, .int y11_5)], [])) (b := (76, [(0, .ref 0), (1, .long x1), (3, .int x3), (4, .int x4), (5, .int y11_5)], [])) rfl rfl c20 ?_
              refine rsn 7 (t := (20, [(5, .int ((((y11_5 + 1)) &&& 524287))), (0, .ref 0), (1, .long x1), (3, .int x3), (4, .int x4)], [])) rfl ?_
              exact rsub [(0, .ref 0), (1, .long x1), (3, .int x3), (4, .int x4), (5, .int ((((y11_5 + 1)) &&& 524287)))] ⟨rfl, ⟨rfl, ⟨rfl, ⟨rfl, ⟨rfl, trivial⟩⟩⟩⟩⟩ ⟨rfl, ⟨rfl, ⟨rfl, ⟨rfl, ⟨rfl, trivial⟩⟩⟩⟩⟩ (ih20 ((((y11_5 + 1)) &&& 524287)) h)
        · rw [if_neg c16] at h
          refine rjt (a := (76, [(0, .ref 0), (1, .long x1), (3, .int x3), (4, .int x4), (5, .int y11_5)], [])) (b := (49, [(0, .ref 0), (1, .long x1), (3, .int x3), (4, .int x4), (5, .int y11_5)], [])) rfl rfl (fun q => c16 (lgc_eq.mp q)) ?_
          refine rsn 7 (t := (20, [(5, .int ((((y11_5 + 1)) &&& 524287))), (0, .ref 0), (1, .long x1), (3, .int x3), (4, .int x4)], [])) rfl ?_
          exact rsub [(0, .ref 0), (1, .long x1), (3, .int x3), (4, .int x4), (5, .int ((((y11_5 + 1)) &&& 524287)))] ⟨rfl, ⟨rfl, ⟨rfl, ⟨rfl, ⟨rfl, trivial⟩⟩⟩⟩⟩ ⟨rfl, ⟨rfl, ⟨rfl, ⟨rfl, ⟨rfl, trivial⟩⟩⟩⟩⟩ (ih20 ((((y11_5 + 1)) &&& 524287)) h)
  exact rsub [(0, .ref 0), (1, .long x1), (3, .int x3), (4, .int x4), (5, .int (((lus ((((((((x1 * 31)) + x3.toInt64)) + 1)) * ((-7046029254386353131)))) 45)).toInt32))] ⟨rfl, ⟨rfl, ⟨rfl, ⟨rfl, ⟨rfl, trivial⟩⟩⟩⟩⟩ ⟨rfl, ⟨rfl, ⟨rfl, ⟨rfl, ⟨rfl, trivial⟩⟩⟩⟩⟩ (lp20 N (((lus ((((((((x1 * 31)) + x3.toInt64)) + 1)) * ((-7046029254386353131)))) 45)).toInt32) h)
def f_Mo_lays (N : Nat) (x1 : Int64) (x3 : Int32) (m : Mm) : Option (Mm) := b1 (f_Mo_placeOf N x1 x3 ((mI m 0 40)) m) fun r1 => ck (ix r1 524288) ((if ((mX m 20 r1.toNatClampNeg)) = 0 then ck (ix ((mI m 0 40)) 160000) (ck (ix r1 524288) (some (vX (vI (vY m 17 (((mI m 0 40)).toNatClampNeg) x1) 0 40 ((((mI m 0 40)) + 1))) 20 r1.toNatClampNeg ((((mI m 0 40)) + 1))))) else some m))
set_option maxRecDepth 20000 in
set_option maxHeartbeats 4000000 in
theorem e_Mo_lays {xs : Nat → Int32} {L : Nat} {al : Bool} (N : Nat) {d : Nat} (hd : 2 ≤ d) {S : St} (hSh : ShR S) {x1 : Int64} {x3 : Int32} {m : Mm} {mf : Mm} (h : f_Mo_lays N x1 x3 m = some mf) : Ev xs L al d 195 [.ref 0, .long x1, .int x3] (m, S) none (mf, S) := by
  obtain ⟨d, rfl⟩ : ∃ e, d = e + 1 := ⟨d - 1, by omega⟩
  refine ev_of (by decide) (Nat.le_of_ble_eq_true rfl) ?_
  rw [f_Mo_lays] at h
  show RN xs L al (Ev xs L al d) 195 0 [(0, .ref 0), (1, .long x1), (3, .int x3)] [] (m, S) none (mf, S)
  refine rsn 4 (t := (4, [(0, .ref 0), (1, .long x1), (3, .int x3)], [.ref 0, .int x3, .long x1, .ref 0])) rfl ?_
  refine pgI rfl rfl rfl (hSh.k 0 rfl _) ?_
  show RN xs L al (Ev xs L al d) 195 7 [(0, .ref 0), (1, .long x1), (3, .int x3)] [.int ((mI m 0 40)), .int x3, .long x1, .ref 0] (m, S) none (mf, S)
  obtain ⟨r1, g1, h⟩ := b1_some h
  refine rcV 196 0 [.long x1, .int x3, .int ((mI m 0 40))] rfl rfl rfl (hSh.k 0 rfl _) (Nat.le_of_ble_eq_true rfl) rfl (e_Mo_placeOf N (by omega) hSh g1) ?_
  show RN xs L al (Ev xs L al d) 195 10 [(0, .ref 0), (1, .long x1), (3, .int x3)] [.int r1] (m, S) none (mf, S)
  refine rsn 2 (t := (13, [(4, .int r1), (0, .ref 0), (1, .long x1), (3, .int x3)], [.ref 0])) rfl ?_
  refine rgR rfl rfl rfl (hSh.k 0 rfl _) (hSh.r 19 rfl _) ?_
  refine rsn 1 (t := (18, [(4, .int r1), (0, .ref 0), (1, .long x1), (3, .int x3)], [.int r1, .ref 20])) rfl ?_
  obtain ⟨c2, h⟩ := ck_some h
  refine pxI rfl (hSh.k 20 rfl _) (hSh.l 19 rfl _) c2 ?_
  show RN xs L al (Ev xs L al d) 195 19 [(4, .int r1), (0, .ref 0), (1, .long x1), (3, .int x3)] [.int ((mX m 20 r1.toNatClampNeg))] (m, S) none (mf, S)
  by_cases c3 : ((mX m 20 r1.toNatClampNeg)) = 0
  · rw [if_pos c3] at h
    refine rjt (a := (23, [(4, .int r1), (0, .ref 0), (1, .long x1), (3, .int x3)], [])) (b := (22, [(4, .int r1), (0, .ref 0), (1, .long x1), (3, .int x3)], [])) rfl rfl c3 ?_
    refine rsn 1 (t := (24, [(4, .int r1), (0, .ref 0), (1, .long x1), (3, .int x3)], [.ref 0])) rfl ?_
    refine rgR rfl rfl rfl (hSh.k 0 rfl _) (hSh.r 16 rfl _) ?_
    refine rsn 1 (t := (28, [(4, .int r1), (0, .ref 0), (1, .long x1), (3, .int x3)], [.ref 0, .ref 17])) rfl ?_
    refine pgI rfl rfl rfl (hSh.k 0 rfl _) ?_
    show RN xs L al (Ev xs L al d) 195 31 [(4, .int r1), (0, .ref 0), (1, .long x1), (3, .int x3)] [.int ((mI m 0 40)), .ref 17] (m, S) none (mf, S)
    refine rsn 1 (t := (32, [(4, .int r1), (0, .ref 0), (1, .long x1), (3, .int x3)], [.long x1, .int ((mI m 0 40)), .ref 17])) rfl ?_
    obtain ⟨c4, h⟩ := ck_some h
    refine psJ rfl (hSh.k 17 rfl _) (hSh.l 16 rfl _) c4 ?_
    refine rsn 2 (t := (35, [(4, .int r1), (0, .ref 0), (1, .long x1), (3, .int x3)], [.ref 0, .ref 0])) rfl ?_
    refine pgI rfl rfl rfl (hSh.k 0 rfl _) ?_
    show RN xs L al (Ev xs L al d) 195 38 [(4, .int r1), (0, .ref 0), (1, .long x1), (3, .int x3)] [.int ((mI m 0 40)), .ref 0] ((vY m 17 (((mI m 0 40)).toNatClampNeg) x1), S) none (mf, S)
    refine rsn 2 (t := (40, [(4, .int r1), (0, .ref 0), (1, .long x1), (3, .int x3)], [.int ((((mI m 0 40)) + 1)), .ref 0])) rfl ?_
    refine ppI rfl rfl rfl rfl (hSh.k 0 rfl _) ?_
    refine rsn 1 (t := (44, [(4, .int r1), (0, .ref 0), (1, .long x1), (3, .int x3)], [.ref 0])) rfl ?_
    refine rgR rfl rfl rfl (hSh.k 0 rfl _) (hSh.r 19 rfl _) ?_
    refine rsn 2 (t := (50, [(4, .int r1), (0, .ref 0), (1, .long x1), (3, .int x3)], [.ref 0, .int r1, .ref 20])) rfl ?_
    refine pgI rfl rfl rfl (hSh.k 0 rfl _) ?_
    show RN xs L al (Ev xs L al d) 195 53 [(4, .int r1), (0, .ref 0), (1, .long x1), (3, .int x3)] [.int ((((mI m 0 40)) + 1)), .int r1, .ref 20] ((vI (vY m 17 (((mI m 0 40)).toNatClampNeg) x1) 0 40 ((((mI m 0 40)) + 1))), S) none (mf, S)
    obtain ⟨c5, h⟩ := ck_some h
    refine psI rfl (hSh.k 20 rfl _) (hSh.l 19 rfl _) c5 ?_
    cases h
    exact rret rfl ⟨rfl, rfl, rfl, rfl, rfl⟩
  · rw [if_neg c3] at h
    refine rjf (a := (23, [(4, .int r1), (0, .ref 0), (1, .long x1), (3, .int x3)], [])) (b := (22, [(4, .int r1), (0, .ref 0), (1, .long x1), (3, .int x3)], [])) rfl rfl c3 ?_
    cases h
    exact rret rfl ⟨rfl, rfl, rfl, rfl, rfl⟩
def f_Mo_laysAll_L2 (N : Nat) (x1 : Int32) (k2 : Int32 → Mm → Option (Mm)) : Nat → Int32 → Mm → Option (Mm)
  | 0, _, _ => none
  | n2 + 1, x2, m => (if 524288 ≤ x2 then k2 x2 m else ck (ix x2 524288) (f_Mo_laysAll_L2 N x1 k2 n2 ((x2 + 1)) ((vX m 20 x2.toNatClampNeg 0))))
def f_Mo_laysAll_L65 (N : Nat) (x1 : Int32) (k65 : Int32 → Mm → Option (Mm)) : Nat → Int32 → Mm → Option (Mm)
  | 0, _, _ => none
  | n65 + 1, x2, m => (if 3 < x2 then k65 x2 m else (if ((mI m 0 25)) = ((-1)) then k65 x2 m else b1 (f_Mo_mayGive N ((mJ m 0 23)) x2 x1) fun r8 => (if r8 = 0 then f_Mo_laysAll_L65 N x1 k65 n65 ((x2 + 1)) m else b1 (f_Mo_one N x2 ((mI m 0 25))) fun r10 => b3 (f_Mo_lays N ((((mJ m 0 23)) + r10)) 0 m) fun m11 => f_Mo_laysAll_L65 N x1 k65 n65 ((x2 + 1)) m11)))
def f_Mo_laysAll_L245 (N : Nat) (x1 : Int32) (x2 : Int32) (x3 : Int32) (x4 : Int32) (x5 : Int32) (x6 : Int64) (x8 : Int32) (k245 : Int32 → Mm → Option (Mm)) : Nat → Int32 → Mm → Option (Mm)
  | 0, _, _ => none
  | n245 + 1, x9, m => (if 3 < x9 then k245 x9 m else (if x8 = 0 then b1 (f_Mo_mayGive N x6 x9 x1) fun r25 => (if r25 = 0 then f_Mo_laysAll_L245 N x1 x2 x3 x4 x5 x6 x8 k245 n245 ((x9 + 1)) m else b1 (f_Mo_altOf N ((((mI m 0 24)) + x2)) x5 2 m) fun r27 => b1 (f_Mo_one N x9 r27) fun r28 => b3 (f_Mo_lays N ((x6 + r28)) x3 m) fun m29 => f_Mo_laysAll_L245 N x1 x2 x3 x4 x5 x6 x8 k245 n245 ((x9 + 1)) m29) else k245 x9 m))
def f_Mo_laysAll_L160 (N : Nat) (x1 : Int32) (x2 : Int32) (x3 : Int32) (x4 : Int32) (k160 : Int32 → Mm → Option (Mm)) : Nat → Int32 → Mm → Option (Mm)
  | 0, _, _ => none
  | n160 + 1, x5, m => ck (ix ((((mI m 0 24)) + x2)) 6) ((if ((mX m 8 (((((mI m 0 24)) + x2)).toNatClampNeg))) ≤ x5 then k160 x5 m else ck (ix x4 160000) (b1 (f_Mo_altOf N ((((mI m 0 24)) + x2)) x5 1 m) fun r21 => (jn (fun (m22 : Mm) => f_Mo_laysAll_L245 N x1 x2 x3 x4 x5 ((mYy m 17 x4.toNatClampNeg)) r21 (fun (z30_9 : Int32) (m30 : Mm) => f_Mo_laysAll_L160 N x1 x2 x3 x4 k160 n160 ((x5 + 1)) m30) N 0 m22) (fun j242 => if r21 = 0 then j242 m else (jn (fun (s40 : Int64) => b3 (f_Mo_lays N s40 x3 m) fun m41 => j242 m41) (fun j238 => if r21 = 1 then b1 (f_Mo_altOf N ((((mI m 0 24)) + x2)) x5 2 m) fun r43 => j238 ((((mYy m 17 x4.toNatClampNeg)) ||| ((lsl 1 ((36 + r43)))))) else j238 ((mYy m 17 x4.toNatClampNeg)))))))))
def f_Mo_laysAll_L151 (N : Nat) (x1 : Int32) (x2 : Int32) (x3 : Int32) (k151 : Int32 → Mm → Option (Mm)) : Nat → Int32 → Mm → Option (Mm)
  | 0, _, _ => none
  | n151 + 1, x4, m => (if x3 ≤ x4 then k151 x4 m else f_Mo_laysAll_L160 N x1 x2 x3 x4 (fun (z44_5 : Int32) (m44 : Mm) => f_Mo_laysAll_L151 N x1 x2 x3 k151 n151 ((x4 + 1)) m44) N 0 m)
def f_Mo_laysAll_L126 (N : Nat) (x1 : Int32) (k126 : Int32 → Mm → Option (Mm)) : Nat → Int32 → Mm → Option (Mm)
  | 0, _, _ => none
  | n126 + 1, x2, m => (if ((mI m 0 39)) ≤ x2 then k126 x2 m else ck (ix ((x2 + 1)) 9) (ck (ix x2 9) (f_Mo_laysAll_L151 N x1 x2 ((mX m 19 (((x2 + 1)).toNatClampNeg))) (fun (z72_4 : Int32) (m72 : Mm) => ck (ix ((x2 + 2)) 9) (f_Mo_laysAll_L126 N x1 k126 n126 ((x2 + 1)) ((vX m72 19 (((x2 + 2)).toNatClampNeg) ((mI m72 0 40)))))) N ((mX m 19 x2.toNatClampNeg)) m)))
def f_Mo_laysAll (N : Nat) (x1 : Int32) (m : Mm) : Option (Mm) := f_Mo_laysAll_L2 N x1 (fun (z3_2 : Int32) (m3 : Mm) => ck (ix (0 : Int32) 9) ((jn (fun (m5 : Mm) => f_Mo_laysAll_L65 N x1 (fun (z12_2 : Int32) (m12 : Mm) => ck (ix (1 : Int32) 9) (f_Mo_laysAll_L126 N x1 (fun (z130_2 : Int32) (m130 : Mm) => some m130) N 0 (vX m12 19 ((1 : Int32).toNatClampNeg) ((mI m12 0 40))))) N 0 m5) (fun j63 => if ((mI m3 0 25)) = ((-1)) then b3 (f_Mo_lays N ((mJ m3 0 23)) 0 (vX (vI (vI m3 0 40 0) 0 39 ((((mI m3 0 18)) - ((mI m3 0 24))))) 19 ((0 : Int32).toNatClampNeg) 0)) fun m256 => j63 m256 else j63 ((vX (vI (vI m3 0 40 0) 0 39 ((((mI m3 0 18)) - ((mI m3 0 24))))) 19 ((0 : Int32).toNatClampNeg) 0)))))) N 0 m
set_option maxRecDepth 20000 in
set_option maxHeartbeats 4000000 in
theorem e_Mo_laysAll {xs : Nat → Int32} {L : Nat} {al : Bool} (N : Nat) {d : Nat} (hd : 4 ≤ d) {S : St} (hSh : ShR S) {x1 : Int32} {m : Mm} {mf : Mm} (h : f_Mo_laysAll N x1 m = some mf) : Ev xs L al d 194 [.ref 0, .int x1] (m, S) none (mf, S) := by
  obtain ⟨d, rfl⟩ : ∃ e, d = e + 1 := ⟨d - 1, by omega⟩
  refine ev_of (by decide) (Nat.le_of_ble_eq_true rfl) ?_
  rw [f_Mo_laysAll] at h
  show RN xs L al (Ev xs L al d) 194 0 [(0, .ref 0), (1, .int x1)] [] (m, S) none (mf, S)
  refine rsn 2 (t := (2, [(2, .int 0), (0, .ref 0), (1, .int x1)], [])) rfl ?_
  have ex2 : ∀ (z3_2 : Int32) (m3 : Mm), (ck (ix (0 : Int32) 9) ((jn (fun (m5 : Mm) => f_Mo_laysAll_L65 N x1 (fun (z12_2 : Int32) (m12 : Mm) => ck (ix (1 : Int32) 9) (f_Mo_laysAll_L126 N x1 (fun (z130_2 : Int32) (m130 : Mm) => some m130) N 0 (vX m12 19 ((1 : Int32).toNatClampNeg) ((mI m12 0 40))))) N 0 m5) (fun j63 => if ((mI m3 0 25)) = ((-1)) then b3 (f_Mo_lays N ((mJ m3 0 23)) 0 (vX (vI (vI m3 0 40 0) 0 39 ((((mI m3 0 18)) - ((mI m3 0 24))))) 19 ((0 : Int32).toNatClampNeg) 0)) fun m256 => j63 m256 else j63 ((vX (vI (vI m3 0 40 0) 0 39 ((((mI m3 0 18)) - ((mI m3 0 24))))) 19 ((0 : Int32).toNatClampNeg) 0)))))) = some mf → RN xs L al (Ev xs L al d) 194 21 [(0, .ref 0), (1, .int x1)] [] (m3, S) none (mf, S) := by
    intro z3_2 m3 h
    try dsimp only at h
    refine rsn 2 (t := (23, [(0, .ref 0), (1, .int x1)], [.int 0, .ref 0])) rfl ?_
    refine ppI rfl rfl rfl rfl (hSh.k 0 rfl _) ?_
    refine rsn 2 (t := (28, [(0, .ref 0), (1, .int x1)], [.ref 0, .ref 0])) rfl ?_
    refine pgI rfl rfl rfl (hSh.k 0 rfl _) ?_
    show RN xs L al (Ev xs L al d) 194 31 [(0, .ref 0), (1, .int x1)] [.int ((mI m3 0 18)), .ref 0] ((vI m3 0 40 0), S) none (mf, S)
    refine rsn 1 (t := (32, [(0, .ref 0), (1, .int x1)], [.ref 0, .int ((mI m3 0 18)), .ref 0])) rfl ?_
    refine pgI rfl rfl rfl (hSh.k 0 rfl _) ?_
    show RN xs L al (Ev xs L al d) 194 35 [(0, .ref 0), (1, .int x1)] [.int ((mI m3 0 24)), .int ((mI m3 0 18)), .ref 0] ((vI m3 0 40 0), S) none (mf, S)
    refine rsn 1 (t := (36, [(0, .ref 0), (1, .int x1)], [.int ((((mI m3 0 18)) - ((mI m3 0 24)))), .ref 0])) rfl ?_
    refine ppI rfl rfl rfl rfl (hSh.k 0 rfl _) ?_
    refine rsn 1 (t := (40, [(0, .ref 0), (1, .int x1)], [.ref 0])) rfl ?_
    refine rgR rfl rfl rfl (hSh.k 0 rfl _) (hSh.r 18 rfl _) ?_
    refine rsn 2 (t := (45, [(0, .ref 0), (1, .int x1)], [.int 0, .int 0, .ref 19])) rfl ?_
    obtain ⟨c4, h⟩ := ck_some h
    refine psI rfl (hSh.k 19 rfl _) (hSh.l 18 rfl _) c4 ?_
    refine rsn 1 (t := (47, [(0, .ref 0), (1, .int x1)], [.ref 0])) rfl ?_
    refine pgI rfl rfl rfl (hSh.k 0 rfl _) ?_
    show RN xs L al (Ev xs L al d) 194 50 [(0, .ref 0), (1, .int x1)] [.int ((mI m3 0 25))] ((vX (vI (vI m3 0 40 0) 0 39 ((((mI m3 0 18)) - ((mI m3 0 24))))) 19 ((0 : Int32).toNatClampNeg) 0), S) none (mf, S)
    refine rsn 1 (t := (51, [(0, .ref 0), (1, .int x1)], [.int ((-1)), .int ((mI m3 0 25))])) rfl ?_
    have jp63 : ∀ (m5 : Mm), (f_Mo_laysAll_L65 N x1 (fun (z12_2 : Int32) (m12 : Mm) => ck (ix (1 : Int32) 9) (f_Mo_laysAll_L126 N x1 (fun (z130_2 : Int32) (m130 : Mm) => some m130) N 0 (vX m12 19 ((1 : Int32).toNatClampNeg) ((mI m12 0 40))))) N 0 m5) = some mf → RN xs L al (Ev xs L al d) 194 63 [(0, .ref 0), (1, .int x1)] [] (m5, S) none (mf, S) := by
      intro m5 h
      try dsimp only at h
      refine rsn 2 (t := (65, [(2, .int 0), (0, .ref 0), (1, .int x1)], [])) rfl ?_
      have ex65 : ∀ (z12_2 : Int32) (m12 : Mm), (ck (ix (1 : Int32) 9) (f_Mo_laysAll_L126 N x1 (fun (z130_2 : Int32) (m130 : Mm) => some m130) N 0 (vX m12 19 ((1 : Int32).toNatClampNeg) ((mI m12 0 40))))) = some mf → RN xs L al (Ev xs L al d) 194 114 [(0, .ref 0), (1, .int x1)] [] (m12, S) none (mf, S) := by
        intro z12_2 m12 h
        try dsimp only at h
        refine rsn 1 (t := (115, [(0, .ref 0), (1, .int x1)], [.ref 0])) rfl ?_
        refine rgR rfl rfl rfl (hSh.k 0 rfl _) (hSh.r 18 rfl _) ?_
        refine rsn 2 (t := (120, [(0, .ref 0), (1, .int x1)], [.ref 0, .int 1, .ref 19])) rfl ?_
        refine pgI rfl rfl rfl (hSh.k 0 rfl _) ?_
        show RN xs L al (Ev xs L al d) 194 123 [(0, .ref 0), (1, .int x1)] [.int ((mI m12 0 40)), .int 1, .ref 19] (m12, S) none (mf, S)
        obtain ⟨c13, h⟩ := ck_some h
        refine psI rfl (hSh.k 19 rfl _) (hSh.l 18 rfl _) c13 ?_
        refine rsn 2 (t := (126, [(2, .int 0), (0, .ref 0), (1, .int x1)], [])) rfl ?_
        have ex126 : ∀ (z130_2 : Int32) (m130 : Mm), (some m130) = some mf → RN xs L al (Ev xs L al d) 194 329 [] [] (m130, S) none (mf, S) := by
          intro z130_2 m130 h
          try dsimp only at h
          cases h
          exact rret rfl ⟨rfl, rfl, rfl, rfl, rfl⟩
        have lp126 : ∀ (n : Nat) (y131_2 : Int32) (m131 : Mm), (f_Mo_laysAll_L126 N x1 (fun (z130_2 : Int32) (m130 : Mm) => some m130) n y131_2 m131) = some mf → RN xs L al (Ev xs L al d) 194 126 [(0, .ref 0), (1, .int x1), (2, .int y131_2)] [] (m131, S) none (mf, S) := by
          intro n
          induction n with
          | zero => intro y131_2 m131 h; exact absurd h (by simp [f_Mo_laysAll_L126])
          | succ n126 ih126 =>
            intro y131_2 m131 h
            try dsimp only at h
            rw [f_Mo_laysAll_L126] at h
            try dsimp only at h
            refine rsn 2 (t := (128, [(0, .ref 0), (1, .int x1), (2, .int y131_2)], [.ref 0, .int y131_2])) rfl ?_
            refine pgI rfl rfl rfl (hSh.k 0 rfl _) ?_
            show RN xs L al (Ev xs L al d) 194 131 [(0, .ref 0), (1, .int x1), (2, .int y131_2)] [.int ((mI m131 0 39)), .int y131_2] (m131, S) none (mf, S)
            by_cases c132 : ((mI m131 0 39)) ≤ y131_2
            · rw [if_pos c132] at h
              refine rjt (a := (329, [(0, .ref 0), (1, .int x1), (2, .int y131_2)], [])) (b := (134, [(0, .ref 0), (1, .int x1), (2, .int y131_2)], [])) rfl rfl c132 ?_
              exact rsub [] trivial trivial (ex126 y131_2 m131 h)
            · rw [if_neg c132] at h
              refine rjf (a := (329, [(0, .ref 0), (1, .int x1), (2, .int y131_2)], [])) (b := (134, [(0, .ref 0), (1, .int x1), (2, .int y131_2)], [])) rfl rfl c132 ?_
              refine rsn 1 (t := (135, [(0, .ref 0), (1, .int x1), (2, .int y131_2)], [.ref 0])) rfl ?_
              refine rgR rfl rfl rfl (hSh.k 0 rfl _) (hSh.r 18 rfl _) ?_
              refine rsn 3 (t := (141, [(0, .ref 0), (1, .int x1), (2, .int y131_2)], [.int ((y131_2 + 1)), .ref 19])) rfl ?_
              obtain ⟨c133, h⟩ := ck_some h
              refine pxI rfl (hSh.k 19 rfl _) (hSh.l 18 rfl _) c133 ?_
              show RN xs L al (Ev xs L al d) 194 142 [(0, .ref 0), (1, .int x1), (2, .int y131_2)] [.int ((mX m131 19 (((y131_2 + 1)).toNatClampNeg)))] (m131, S) none (mf, S)
              refine rsn 2 (t := (144, [(3, .int ((mX m131 19 (((y131_2 + 1)).toNatClampNeg)))), (0, .ref 0), (1, .int x1), (2, .int y131_2)], [.ref 0])) rfl ?_
              refine rgR rfl rfl rfl (hSh.k 0 rfl _) (hSh.r 18 rfl _) ?_
              refine rsn 1 (t := (148, [(3, .int ((mX m131 19 (((y131_2 + 1)).toNatClampNeg)))), (0, .ref 0), (1, .int x1), (2, .int y131_2)], [.int y131_2, .ref 19])) rfl ?_
              obtain ⟨c134, h⟩ := ck_some h
              refine pxI rfl (hSh.k 19 rfl _) (hSh.l 18 rfl _) c134 ?_
              show RN xs L al (Ev xs L al d) 194 149 [(3, .int ((mX m131 19 (((y131_2 + 1)).toNatClampNeg)))), (0, .ref 0), (1, .int x1), (2, .int y131_2)] [.int ((mX m131 19 y131_2.toNatClampNeg))] (m131, S) none (mf, S)
              refine rsn 1 (t := (151, [(4, .int ((mX m131 19 y131_2.toNatClampNeg))), (3, .int ((mX m131 19 (((y131_2 + 1)).toNatClampNeg)))), (0, .ref 0), (1, .int x1), (2, .int y131_2)], [])) rfl ?_
              have ex151 : ∀ (z190_4 : Int32) (m190 : Mm), (ck (ix ((y131_2 + 2)) 9) (f_Mo_laysAll_L126 N x1 (fun (z130_2 : Int32) (m130 : Mm) => some m130) n126 ((y131_2 + 1)) ((vX m190 19 (((y131_2 + 2)).toNatClampNeg) ((mI m190 0 40)))))) = some mf → RN xs L al (Ev xs L al d) 194 311 [(0, .ref 0), (1, .int x1), (2, .int y131_2)] [] (m190, S) none (mf, S) := by
                intro z190_4 m190 h
                try dsimp only at h
                refine rsn 1 (t := (312, [(0, .ref 0), (1, .int x1), (2, .int y131_2)], [.ref 0])) rfl ?_
                refine rgR rfl rfl rfl (hSh.k 0 rfl _) (hSh.r 18 rfl _) ?_
                refine rsn 4 (t := (319, [(0, .ref 0), (1, .int x1), (2, .int y131_2)], [.ref 0, .int ((y131_2 + 2)), .ref 19])) rfl ?_
                refine pgI rfl rfl rfl (hSh.k 0 rfl _) ?_
                show RN xs L al (Ev xs L al d) 194 322 [(0, .ref 0), (1, .int x1), (2, .int y131_2)] [.int ((mI m190 0 40)), .int ((y131_2 + 2)), .ref 19] (m190, S) none (mf, S)
                obtain ⟨c191, h⟩ := ck_some h
                refine psI rfl (hSh.k 19 rfl _) (hSh.l 18 rfl _) c191 ?_
                refine rsn 2 (t := (126, [(2, .int ((y131_2 + 1))), (0, .ref 0), (1, .int x1)], [])) rfl ?_
                exact rsub [(0, .ref 0), (1, .int x1), (2, .int ((y131_2 + 1)))] ⟨rfl, ⟨rfl, ⟨rfl, trivial⟩⟩⟩ ⟨rfl, ⟨rfl, ⟨rfl, trivial⟩⟩⟩ (ih126 ((y131_2 + 1)) ((vX m190 19 (((y131_2 + 2)).toNatClampNeg) ((mI m190 0 40)))) h)
              have lp151 : ∀ (n : Nat) (y192_4 : Int32) (m192 : Mm), (f_Mo_laysAll_L151 N x1 y131_2 ((mX m131 19 (((y131_2 + 1)).toNatClampNeg))) (fun (z190_4 : Int32) (m190 : Mm) => ck (ix ((y131_2 + 2)) 9) (f_Mo_laysAll_L126 N x1 (fun (z130_2 : Int32) (m130 : Mm) => some m130) n126 ((y131_2 + 1)) ((vX m190 19 (((y131_2 + 2)).toNatClampNeg) ((mI m190 0 40)))))) n y192_4 m192) = some mf → RN xs L al (Ev xs L al d) 194 151 [(0, .ref 0), (1, .int x1), (2, .int y131_2), (3, .int ((mX m131 19 (((y131_2 + 1)).toNatClampNeg)))), (4, .int y192_4)] [] (m192, S) none (mf, S) := by
                intro n
                induction n with
                | zero => intro y192_4 m192 h; exact absurd h (by simp [f_Mo_laysAll_L151])
                | succ n151 ih151 =>
                  intro y192_4 m192 h
                  try dsimp only at h
                  rw [f_Mo_laysAll_L151] at h
                  try dsimp only at h
                  refine rsn 2 (t := (154, [(0, .ref 0), (1, .int x1), (2, .int y131_2), (3, .int ((mX m131 19 (((y131_2 + 1)).toNatClampNeg)))), (4, .int y192_4)], [.int ((mX m131 19 (((y131_2 + 1)).toNatClampNeg))), .int y192_4])) rfl ?_
                  by_cases c193 : ((mX m131 19 (((y131_2 + 1)).toNatClampNeg))) ≤ y192_4
                  · rw [if_pos c193] at h
                    refine rjt (a := (311, [(0, .ref 0), (1, .int x1), (2, .int y131_2), (3, .int ((mX m131 19 (((y131_2 + 1)).toNatClampNeg)))), (4, .int y192_4)], [])) (b := (157, [(0, .ref 0), (1, .int x1), (2, .int y131_2), (3, .int ((mX m131 19 (((y131_2 + 1)).toNatClampNeg)))), (4, .int y192_4)], [])) rfl rfl c193 ?_
                    exact rsub [(0, .ref 0), (1, .int x1), (2, .int y131_2)] ⟨rfl, ⟨rfl, ⟨rfl, trivial⟩⟩⟩ ⟨rfl, ⟨rfl, ⟨rfl, trivial⟩⟩⟩ (ex151 y192_4 m192 h)
                  · rw [if_neg c193] at h
                    refine rjf (a := (311, [(0, .ref 0), (1, .int x1), (2, .int y131_2), (3, .int ((mX m131 19 (((y131_2 + 1)).toNatClampNeg)))), (4, .int y192_4)], [])) (b := (157, [(0, .ref 0), (1, .int x1), (2, .int y131_2), (3, .int ((mX m131 19 (((y131_2 + 1)).toNatClampNeg)))), (4, .int y192_4)], [])) rfl rfl c193 ?_
                    refine rsn 2 (t := (160, [(5, .int 0), (0, .ref 0), (1, .int x1), (2, .int y131_2), (3, .int ((mX m131 19 (((y131_2 + 1)).toNatClampNeg)))), (4, .int y192_4)], [])) rfl ?_
                    have ex160 : ∀ (z220_5 : Int32) (m220 : Mm), (f_Mo_laysAll_L151 N x1 y131_2 ((mX m131 19 (((y131_2 + 1)).toNatClampNeg))) (fun (z190_4 : Int32) (m190 : Mm) => ck (ix ((y131_2 + 2)) 9) (f_Mo_laysAll_L126 N x1 (fun (z130_2 : Int32) (m130 : Mm) => some m130) n126 ((y131_2 + 1)) ((vX m190 19 (((y131_2 + 2)).toNatClampNeg) ((mI m190 0 40)))))) n151 ((y192_4 + 1)) m220) = some mf → RN xs L al (Ev xs L al d) 194 305 [(0, .ref 0), (1, .int x1), (2, .int y131_2), (3, .int ((mX m131 19 (((y131_2 + 1)).toNatClampNeg)))), (4, .int y192_4)] [] (m220, S) none (mf, S) := by
                      intro z220_5 m220 h
                      try dsimp only at h
                      refine rsn 2 (t := (151, [(4, .int ((y192_4 + 1))), (0, .ref 0), (1, .int x1), (2, .int y131_2), (3, .int ((mX m131 19 (((y131_2 + 1)).toNatClampNeg))))], [])) rfl ?_
                      exact rsub [(0, .ref 0), (1, .int x1), (2, .int y131_2), (3, .int ((mX m131 19 (((y131_2 + 1)).toNatClampNeg)))), (4, .int ((y192_4 + 1)))] ⟨rfl, ⟨rfl, ⟨rfl, ⟨rfl, ⟨rfl, trivial⟩⟩⟩⟩⟩ ⟨rfl, ⟨rfl, ⟨rfl, ⟨rfl, ⟨rfl, trivial⟩⟩⟩⟩⟩ (ih151 ((y192_4 + 1)) m220 h)
                    have lp160 : ∀ (n : Nat) (y221_5 : Int32) (m221 : Mm), (f_Mo_laysAll_L160 N x1 y131_2 ((mX m131 19 (((y131_2 + 1)).toNatClampNeg))) y192_4 (fun (z220_5 : Int32) (m220 : Mm) => f_Mo_laysAll_L151 N x1 y131_2 ((mX m131 19 (((y131_2 + 1)).toNatClampNeg))) (fun (z190_4 : Int32) (m190 : Mm) => ck (ix ((y131_2 + 2)) 9) (f_Mo_laysAll_L126 N x1 (fun (z130_2 : Int32) (m130 : Mm) => some m130) n126 ((y131_2 + 1)) ((vX m190 19 (((y131_2 + 2)).toNatClampNeg) ((mI m190 0 40)))))) n151 ((y192_4 + 1)) m220) n y221_5 m221) = some mf → RN xs L al (Ev xs L al d) 194 160 [(0, .ref 0), (1, .int x1), (2, .int y131_2), (3, .int ((mX m131 19 (((y131_2 + 1)).toNatClampNeg)))), (4, .int y192_4), (5, .int y221_5)] [] (m221, S) none (mf, S) := by
                      intro n
                      induction n with
                      | zero => intro y221_5 m221 h; exact absurd h (by simp [f_Mo_laysAll_L160])
                      | succ n160 ih160 =>
                        intro y221_5 m221 h
                        try dsimp only at h
                        rw [f_Mo_laysAll_L160] at h
                        try dsimp only at h
                        refine rsn 2 (t := (163, [(0, .ref 0), (1, .int x1), (2, .int y131_2), (3, .int ((mX m131 19 (((y131_2 + 1)).toNatClampNeg)))), (4, .int y192_4), (5, .int y221_5)], [.ref 0, .int y221_5])) rfl ?_
                        refine rgR rfl rfl rfl (hSh.k 0 rfl _) (hSh.r 7 rfl _) ?_
                        refine rsn 1 (t := (167, [(0, .ref 0), (1, .int x1), (2, .int y131_2), (3, .int ((mX m131 19 (((y131_2 + 1)).toNatClampNeg)))), (4, .int y192_4), (5, .int y221_5)], [.ref 0, .ref 8, .int y221_5])) rfl ?_
                        refine pgI rfl rfl rfl (hSh.k 0 rfl _) ?_
                        show RN xs L al (Ev xs L al d) 194 170 [(0, .ref 0), (1, .int x1), (2, .int y131_2), (3, .int ((mX m131 19 (((y131_2 + 1)).toNatClampNeg)))), (4, .int y192_4), (5, .int y221_5)] [.int ((mI m221 0 24)), .ref 8, .int y221_5] (m221, S) none (mf, S)
                        refine rsn 2 (t := (172, [(0, .ref 0), (1, .int x1), (2, .int y131_2), (3, .int ((mX m131 19 (((y131_2 + 1)).toNatClampNeg)))), (4, .int y192_4), (5, .int y221_5)], [.int ((((mI m221 0 24)) + y131_2)), .ref 8, .int y221_5])) rfl ?_
                        obtain ⟨c222, h⟩ := ck_some h
                        refine pxI rfl (hSh.k 8 rfl _) (hSh.l 7 rfl _) c222 ?_
                        show RN xs L al (Ev xs L al d) 194 173 [(0, .ref 0), (1, .int x1), (2, .int y131_2), (3, .int ((mX m131 19 (((y131_2 + 1)).toNatClampNeg)))), (4, .int y192_4), (5, .int y221_5)] [.int ((mX m221 8 (((((mI m221 0 24)) + y131_2)).toNatClampNeg))), .int y221_5] (m221, S) none (mf, S)
                        by_cases c223 : ((mX m221 8 (((((mI m221 0 24)) + y131_2)).toNatClampNeg))) ≤ y221_5
                        · rw [if_pos c223] at h
                          refine rjt (a := (305, [(0, .ref 0), (1, .int x1), (2, .int y131_2), (3, .int ((mX m131 19 (((y131_2 + 1)).toNatClampNeg)))), (4, .int y192_4), (5, .int y221_5)], [])) (b := (176, [(0, .ref 0), (1, .int x1), (2, .int y131_2), (3, .int ((mX m131 19 (((y131_2 + 1)).toNatClampNeg)))), (4, .int y192_4), (5, .int y221_5)], [])) rfl rfl c223 ?_
                          exact rsub [(0, .ref 0), (1, .int x1), (2, .int y131_2), (3, .int ((mX m131 19 (((y131_2 + 1)).toNatClampNeg)))), (4, .int y192_4)] ⟨rfl, ⟨rfl, ⟨rfl, ⟨rfl, ⟨rfl, trivial⟩⟩⟩⟩⟩ ⟨rfl, ⟨rfl, ⟨rfl, ⟨rfl, ⟨rfl, trivial⟩⟩⟩⟩⟩ (ex160 y221_5 m221 h)
                        · rw [if_neg c223] at h
                          refine rjf (a := (305, [(0, .ref 0), (1, .int x1), (2, .int y131_2), (3, .int ((mX m131 19 (((y131_2 + 1)).toNatClampNeg)))), (4, .int y192_4), (5, .int y221_5)], [])) (b := (176, [(0, .ref 0), (1, .int x1), (2, .int y131_2), (3, .int ((mX m131 19 (((y131_2 + 1)).toNatClampNeg)))), (4, .int y192_4), (5, .int y221_5)], [])) rfl rfl c223 ?_
                          refine rsn 1 (t := (177, [(0, .ref 0), (1, .int x1), (2, .int y131_2), (3, .int ((mX m131 19 (((y131_2 + 1)).toNatClampNeg)))), (4, .int y192_4), (5, .int y221_5)], [.ref 0])) rfl ?_
                          refine rgR rfl rfl rfl (hSh.k 0 rfl _) (hSh.r 16 rfl _) ?_
                          refine rsn 1 (t := (182, [(0, .ref 0), (1, .int x1), (2, .int y131_2), (3, .int ((mX m131 19 (((y131_2 + 1)).toNatClampNeg)))), (4, .int y192_4), (5, .int y221_5)], [.int y192_4, .ref 17])) rfl ?_
                          obtain ⟨c224, h⟩ := ck_some h
                          refine pxJ rfl (hSh.k 17 rfl _) (hSh.l 16 rfl _) c224 ?_
                          show RN xs L al (Ev xs L al d) 194 183 [(0, .ref 0), (1, .int x1), (2, .int y131_2), (3, .int ((mX m131 19 (((y131_2 + 1)).toNatClampNeg)))), (4, .int y192_4), (5, .int y221_5)] [.long ((mYy m221 17 y192_4.toNatClampNeg))] (m221, S) none (mf, S)
                          refine rsn 3 (t := (187, [(6, .long ((mYy m221 17 y192_4.toNatClampNeg))), (0, .ref 0), (1, .int x1), (2, .int y131_2), (3, .int ((mX m131 19 (((y131_2 + 1)).toNatClampNeg)))), (4, .int y192_4), (5, .int y221_5)], [.ref 0, .ref 0])) rfl ?_
                          refine pgI rfl rfl rfl (hSh.k 0 rfl _) ?_
                          show RN xs L al (Ev xs L al d) 194 190 [(6, .long ((mYy m221 17 y192_4.toNatClampNeg))), (0, .ref 0), (1, .int x1), (2, .int y131_2), (3, .int ((mX m131 19 (((y131_2 + 1)).toNatClampNeg)))), (4, .int y192_4), (5, .int y221_5)] [.int ((mI m221 0 24)), .ref 0] (m221, S) none (mf, S)
                          refine rsn 4 (t := (195, [(6, .long ((mYy m221 17 y192_4.toNatClampNeg))), (0, .ref 0), (1, .int x1), (2, .int y131_2), (3, .int ((mX m131 19 (((y131_2 + 1)).toNatClampNeg)))), (4, .int y192_4), (5, .int y221_5)], [.int 1, .int y221_5, .int ((((mI m221 0 24)) + y131_2)), .ref 0])) rfl ?_
                          obtain ⟨r225, g225, h⟩ := b1_some h
                          refine rcV 177 0 [.int ((((mI m221 0 24)) + y131_2)), .int y221_5, .int 1] rfl rfl rfl (hSh.k 0 rfl _) (Nat.le_of_ble_eq_true rfl) rfl (e_Mo_altOf N (by omega) hSh g225) ?_
                          show RN xs L al (Ev xs L al d) 194 198 [(6, .long ((mYy m221 17 y192_4.toNatClampNeg))), (0, .ref 0), (1, .int x1), (2, .int y131_2), (3, .int ((mX m131 19 (((y131_2 + 1)).toNatClampNeg)))), (4, .int y192_4), (5, .int y221_5)] [.int r225] (m221, S) none (mf, S)
                          refine rsn 2 (t := (202, [(8, .int r225), (6, .long ((mYy m221 17 y192_4.toNatClampNeg))), (0, .ref 0), (1, .int x1), (2, .int y131_2), (3, .int ((mX m131 19 (((y131_2 + 1)).toNatClampNeg)))), (4, .int y192_4), (5, .int y221_5)], [.int r225])) rfl ?_
                          have jp242 : ∀ (m226 : Mm), (f_Mo_laysAll_L245 N x1 y131_2 ((mX m131 19 (((y131_2 + 1)).toNatClampNeg))) y192_4 y221_5 ((mYy m221 17 y192_4.toNatClampNeg)) r225 (fun (z234_9 : Int32) (m234 : Mm) => f_Mo_laysAll_L160 N x1 y131_2 ((mX m131 19 (((y131_2 + 1)).toNatClampNeg))) y192_4 (fun (z220_5 : Int32) (m220 : Mm) => f_Mo_laysAll_L151 N x1 y131_2 ((mX m131 19 (((y131_2 + 1)).toNatClampNeg))) (fun (z190_4 : Int32) (m190 : Mm) => ck (ix ((y131_2 + 2)) 9) (f_Mo_laysAll_L126 N x1 (fun (z130_2 : Int32) (m130 : Mm) => some m130) n126 ((y131_2 + 1)) ((vX m190 19 (((y131_2 + 2)).toNatClampNeg) ((mI m190 0 40)))))) n151 ((y192_4 + 1)) m220) n160 ((y221_5 + 1)) m234) N 0 m226) = some mf → RN xs L al (Ev xs L al d) 194 242 [(0, .ref 0), (1, .int x1), (2, .int y131_2), (3, .int ((mX m131 19 (((y131_2 + 1)).toNatClampNeg)))), (4, .int y192_4), (5, .int y221_5), (6, .long ((mYy m221 17 y192_4.toNatClampNeg))), (8, .int r225)] [] (m226, S) none (mf, S) := by
                            intro m226 h
                            try dsimp only at h
                            refine rsn 2 (t := (245, [(9, .int 0), (0, .ref 0), (1, .int x1), (2, .int y131_2), (3, .int ((mX m131 19 (((y131_2 + 1)).toNatClampNeg)))), (4, .int y192_4), (5, .int y221_5), (6, .long ((mYy m221 17 y192_4.toNatClampNeg))), (8, .int r225)], [])) rfl ?_
                            have ex245 : ∀ (z234_9 : Int32) (m234 : Mm), (f_Mo_laysAll_L160 N x1 y131_2 ((mX m131 19 (((y131_2 + 1)).toNatClampNeg))) y192_4 (fun (z220_5 : Int32) (m220 : Mm) => f_Mo_laysAll_L151 N x1 y131_2 ((mX m131 19 (((y131_2 + 1)).toNatClampNeg))) (fun (z190_4 : Int32) (m190 : Mm) => ck (ix ((y131_2 + 2)) 9) (f_Mo_laysAll_L126 N x1 (fun (z130_2 : Int32) (m130 : Mm) => some m130) n126 ((y131_2 + 1)) ((vX m190 19 (((y131_2 + 2)).toNatClampNeg) ((mI m190 0 40)))))) n151 ((y192_4 + 1)) m220) n160 ((y221_5 + 1)) m234) = some mf → RN xs L al (Ev xs L al d) 194 299 [(0, .ref 0), (1, .int x1), (2, .int y131_2), (3, .int ((mX m131 19 (((y131_2 + 1)).toNatClampNeg)))), (4, .int y192_4), (5, .int y221_5)] [] (m234, S) none (mf, S) := by
                              intro z234_9 m234 h
                              try dsimp only at h
                              refine rsn 2 (t := (160, [(5, .int ((y221_5 + 1))), (0, .ref 0), (1, .int x1), (2, .int y131_2), (3, .int ((mX m131 19 (((y131_2 + 1)).toNatClampNeg)))), (4, .int y192_4)], [])) rfl ?_
                              exact rsub [(0, .ref 0), (1, .int x1), (2, .int y131_2), (3, .int ((mX m131 19 (((y131_2 + 1)).toNatClampNeg)))), (4, .int y192_4), (5, .int ((y221_5 + 1)))] ⟨rfl, ⟨rfl, ⟨rfl, ⟨rfl, ⟨rfl, ⟨rfl, trivial⟩⟩⟩⟩⟩⟩ ⟨rfl, ⟨rfl, ⟨rfl, ⟨rfl, ⟨rfl, ⟨rfl, trivial⟩⟩⟩⟩⟩⟩ (ih160 ((y221_5 + 1)) m234 h)
                            have lp245 : ∀ (n : Nat) (y235_9 : Int32) (m235 : Mm), (f_Mo_laysAll_L245 N x1 y131_2 ((mX m131 19 (((y131_2 + 1)).toNatClampNeg))) y192_4 y221_5 ((mYy m221 17 y192_4.toNatClampNeg)) r225 (fun (z234_9 : Int32) (m234 : Mm) => f_Mo_laysAll_L160 N x1 y131_2 ((mX m131 19 (((y131_2 + 1)).toNatClampNeg))) y192_4 (fun (z220_5 : Int32) (m220 : Mm) => f_Mo_laysAll_L151 N x1 y131_2 ((mX m131 19 (((y131_2 + 1)).toNatClampNeg))) (fun (z190_4 : Int32) (m190 : Mm) => ck (ix ((y131_2 + 2)) 9) (f_Mo_laysAll_L126 N x1 (fun (z130_2 : Int32) (m130 : Mm) => some m130) n126 ((y131_2 + 1)) ((vX m190 19 (((y131_2 + 2)).toNatClampNeg) ((mI m190 0 40)))))) n151 ((y192_4 + 1)) m220) n160 ((y221_5 + 1)) m234) n y235_9 m235) = some mf → RN xs L al (Ev xs L al d) 194 245 [(0, .ref 0), (1, .int x1), (2, .int y131_2), (3, .int ((mX m131 19 (((y131_2 + 1)).toNatClampNeg)))), (4, .int y192_4), (5, .int y221_5), (6, .long ((mYy m221 17 y192_4.toNatClampNeg))), (8, .int r225), (9, .int y235_9)] [] (m235, S) none (mf, S) := by
                              intro n
                              induction n with
                              | zero => intro y235_9 m235 h; exact absurd h (by simp [f_Mo_laysAll_L245])
                              | succ n245 ih245 =>
                                intro y235_9 m235 h
                                try dsimp only at h
                                rw [f_Mo_laysAll_L245] at h
                                try dsimp only at h
                                refine rsn 2 (t := (248, [(0, .ref 0), (1, .int x1), (2, .int y131_2), (3, .int ((mX m131 19 (((y131_2 + 1)).toNatClampNeg)))), (4, .int y192_4), (5, .int y221_5), (6, .long ((mYy m221 17 y192_4.toNatClampNeg))), (8, .int r225), (9, .int y235_9)], [.int 3, .int y235_9])) rfl ?_
                                by_cases c236 : 3 < y235_9
                                · rw [if_pos c236] at h
                                  refine rjt (a := (299, [(0, .ref 0), (1, .int x1), (2, .int y131_2), (3, .int ((mX m131 19 (((y131_2 + 1)).toNatClampNeg)))), (4, .int y192_4), (5, .int y221_5), (6, .long ((mYy m221 17 y192_4.toNatClampNeg))), (8, .int r225), (9, .int y235_9)], [])) (b := (251, [(0, .ref 0), (1, .int x1), (2, .int y131_2), (3, .int ((mX m131 19 (((y131_2 + 1)).toNatClampNeg)))), (4, .int y192_4), (5, .int y221_5), (6, .long ((mYy m221 17 y192_4.toNatClampNeg))), (8, .int r225), (9, .int y235_9)], [])) rfl rfl c236 ?_
                                  exact rsub [(0, .ref 0), (1, .int x1), (2, .int y131_2), (3, .int ((mX m131 19 (((y131_2 + 1)).toNatClampNeg)))), (4, .int y192_4), (5, .int y221_5)] ⟨rfl, ⟨rfl, ⟨rfl, ⟨rfl, ⟨rfl, ⟨rfl, trivial⟩⟩⟩⟩⟩⟩ ⟨rfl, ⟨rfl, ⟨rfl, ⟨rfl, ⟨rfl, ⟨rfl, trivial⟩⟩⟩⟩⟩⟩ (ex245 y235_9 m235 h)
                                · rw [if_neg c236] at h
                                  refine rjf (a := (299, [(0, .ref 0), (1, .int x1), (2, .int y131_2), (3, .int ((mX m131 19 (((y131_2 + 1)).toNatClampNeg)))), (4, .int y192_4), (5, .int y221_5), (6, .long ((mYy m221 17 y192_4.toNatClampNeg))), (8, .int r225), (9, .int y235_9)], [])) (b := (251, [(0, .ref 0), (1, .int x1), (2, .int y131_2), (3, .int ((mX m131 19 (((y131_2 + 1)).toNatClampNeg)))), (4, .int y192_4), (5, .int y221_5), (6, .long ((mYy m221 17 y192_4.toNatClampNeg))), (8, .int r225), (9, .int y235_9)], [])) rfl rfl c236 ?_
                                  refine rsn 1 (t := (253, [(0, .ref 0), (1, .int x1), (2, .int y131_2), (3, .int ((mX m131 19 (((y131_2 + 1)).toNatClampNeg)))), (4, .int y192_4), (5, .int y221_5), (6, .long ((mYy m221 17 y192_4.toNatClampNeg))), (8, .int r225), (9, .int y235_9)], [.int r225])) rfl ?_
                                  by_cases c237 : r225 = 0
                                  · rw [if_pos c237] at h
                                    refine rjf (a := (299, [(0, .ref 0), (1, .int x1), (2, .int y131_2), (3, .int ((mX m131 19 (((y131_2 + 1)).toNatClampNeg)))), (4, .int y192_4), (5, .int y221_5), (6, .long ((mYy m221 17 y192_4.toNatClampNeg))), (8, .int r225), (9, .int y235_9)], [])) (b := (256, [(0, .ref 0), (1, .int x1), (2, .int y131_2), (3, .int ((mX m131 19 (((y131_2 + 1)).toNatClampNeg)))), (4, .int y192_4), (5, .int y221_5), (6, .long ((mYy m221 17 y192_4.toNatClampNeg))), (8, .int r225), (9, .int y235_9)], [])) rfl rfl (fun q => q c237) ?_
                                    refine rsn 3 (t := (261, [(0, .ref 0), (1, .int x1), (2, .int y131_2), (3, .int ((mX m131 19 (((y131_2 + 1)).toNatClampNeg)))), (4, .int y192_4), (5, .int y221_5), (6, .long ((mYy m221 17 y192_4.toNatClampNeg))), (8, .int r225), (9, .int y235_9)], [.int x1, .int y235_9, .long ((mYy m221 17 y192_4.toNatClampNeg))])) rfl ?_
                                    obtain ⟨r238, g238, h⟩ := b1_some h
                                    refine rcS 180 [.long ((mYy m221 17 y192_4.toNatClampNeg)), .int y235_9, .int x1] rfl rfl rfl (Nat.le_of_ble_eq_true rfl) rfl (e_Mo_mayGive N (by omega) g238) ?_
                                    show RN xs L al (Ev xs L al d) 194 264 [(0, .ref 0), (1, .int x1), (2, .int y131_2), (3, .int ((mX m131 19 (((y131_2 + 1)).toNatClampNeg)))), (4, .int y192_4), (5, .int y221_5), (6, .long ((mYy m221 17 y192_4.toNatClampNeg))), (8, .int r225), (9, .int y235_9)] [.int r238] (m235, S) none (mf, S)
                                    by_cases c239 : r238 = 0
                                    · rw [if_pos c239] at h
                                      refine rjt (a := (293, [(0, .ref 0), (1, .int x1), (2, .int y131_2), (3, .int ((mX m131 19 (((y131_2 + 1)).toNatClampNeg)))), (4, .int y192_4), (5, .int y221_5), (6, .long ((mYy m221 17 y192_4.toNatClampNeg))), (8, .int r225), (9, .int y235_9)], [])) (b := (267, [(0, .ref 0), (1, .int x1), (2, .int y131_2), (3, .int ((mX m131 19 (((y131_2 + 1)).toNatClampNeg)))), (4, .int y192_4), (5, .int y221_5), (6, .long ((mYy m221 17 y192_4.toNatClampNeg))), (8, .int r225), (9, .int y235_9)], [])) rfl rfl c239 ?_
                                      refine rsn 2 (t := (245, [(9, .int ((y235_9 + 1))), (0, .ref 0), (1, .int x1), (2, .int y131_2), (3, .int ((mX m131 19 (((y131_2 + 1)).toNatClampNeg)))), (4, .int y192_4), (5, .int y221_5), (6, .long ((mYy m221 17 y192_4.toNatClampNeg))), (8, .int r225)], [])) rfl ?_
                                      exact rsub [(0, .ref 0), (1, .int x1), (2, .int y131_2), (3, .int ((mX m131 19 (((y131_2 + 1)).toNatClampNeg)))), (4, .int y192_4), (5, .int y221_5), (6, .long ((mYy m221 17 y192_4.toNatClampNeg))), (8, .int r225), (9, .int ((y235_9 + 1)))] ⟨rfl, ⟨rfl, ⟨rfl, ⟨rfl, ⟨rfl, ⟨rfl, ⟨rfl, ⟨rfl, ⟨rfl, trivial⟩⟩⟩⟩⟩⟩⟩⟩⟩ ⟨rfl, ⟨rfl, ⟨rfl, ⟨rfl, ⟨rfl, ⟨rfl, ⟨rfl, ⟨rfl, ⟨rfl, trivial⟩⟩⟩⟩⟩⟩⟩⟩⟩ (ih245 ((y235_9 + 1)) m235 h)
                                    · rw [if_neg c239] at h
                                      refine rjf (a := (293, [(0, .ref 0), (1, .int x1), (2, .int y131_2), (3, .int ((mX m131 19 (((y131_2 + 1)).toNatClampNeg)))), (4, .int y192_4), (5, .int y221_5), (6, .long ((mYy m221 17 y192_4.toNatClampNeg))), (8, .int r225), (9, .int y235_9)], [])) (b := (267, [(0, .ref 0), (1, .int x1), (2, .int y131_2), (3, .int ((mX m131 19 (((y131_2 + 1)).toNatClampNeg)))), (4, .int y192_4), (5, .int y221_5), (6, .long ((mYy m221 17 y192_4.toNatClampNeg))), (8, .int r225), (9, .int y235_9)], [])) rfl rfl c239 ?_
                                      refine rsn 5 (t := (274, [(0, .ref 0), (1, .int x1), (2, .int y131_2), (3, .int ((mX m131 19 (((y131_2 + 1)).toNatClampNeg)))), (4, .int y192_4), (5, .int y221_5), (6, .long ((mYy m221 17 y192_4.toNatClampNeg))), (8, .int r225), (9, .int y235_9)], [.ref 0, .ref 0, .int y235_9, .long ((mYy m221 17 y192_4.toNatClampNeg)), .ref 0])) rfl ?_
                                      refine pgI rfl rfl rfl (hSh.k 0 rfl _) ?_
                                      show RN xs L al (Ev xs L al d) 194 277 [(0, .ref 0), (1, .int x1), (2, .int y131_2), (3, .int ((mX m131 19 (((y131_2 + 1)).toNatClampNeg)))), (4, .int y192_4), (5, .int y221_5), (6, .long ((mYy m221 17 y192_4.toNatClampNeg))), (8, .int r225), (9, .int y235_9)] [.int ((mI m235 0 24)), .ref 0, .int y235_9, .long ((mYy m221 17 y192_4.toNatClampNeg)), .ref 0] (m235, S) none (mf, S)
                                      refine rsn 4 (t := (282, [(0, .ref 0), (1, .int x1), (2, .int y131_2), (3, .int ((mX m131 19 (((y131_2 + 1)).toNatClampNeg)))), (4, .int y192_4), (5, .int y221_5), (6, .long ((mYy m221 17 y192_4.toNatClampNeg))), (8, .int r225), (9, .int y235_9)], [.int 2, .int y221_5, .int ((((mI m235 0 24)) + y131_2)), .ref 0, .int y235_9, .long ((mYy m221 17 y192_4.toNatClampNeg)), .ref 0])) rfl ?_
                                      obtain ⟨r240, g240, h⟩ := b1_some h
                                      refine rcV 177 0 [.int ((((mI m235 0 24)) + y131_2)), .int y221_5, .int 2] rfl rfl rfl (hSh.k 0 rfl _) (Nat.le_of_ble_eq_true rfl) rfl (e_Mo_altOf N (by omega) hSh g240) ?_
                                      show RN xs L al (Ev xs L al d) 194 285 [(0, .ref 0), (1, .int x1), (2, .int y131_2), (3, .int ((mX m131 19 (((y131_2 + 1)).toNatClampNeg)))), (4, .int y192_4), (5, .int y221_5), (6, .long ((mYy m221 17 y192_4.toNatClampNeg))), (8, .int r225), (9, .int y235_9)] [.int r240, .int y235_9, .long ((mYy m221 17 y192_4.toNatClampNeg)), .ref 0] (m235, S) none (mf, S)
                                      obtain ⟨r241, g241, h⟩ := b1_some h
                                      refine rcS 182 [.int y235_9, .int r240] rfl rfl rfl (Nat.le_of_ble_eq_true rfl) rfl (e_Mo_one N (by omega) g241) ?_
                                      show RN xs L al (Ev xs L al d) 194 288 [(0, .ref 0), (1, .int x1), (2, .int y131_2), (3, .int ((mX m131 19 (((y131_2 + 1)).toNatClampNeg)))), (4, .int y192_4), (5, .int y221_5), (6, .long ((mYy m221 17 y192_4.toNatClampNeg))), (8, .int r225), (9, .int y235_9)] [.long r241, .long ((mYy m221 17 y192_4.toNatClampNeg)), .ref 0] (m235, S) none (mf, S)
                                      refine rsn 2 (t := (290, [(0, .ref 0), (1, .int x1), (2, .int y131_2), (3, .int ((mX m131 19 (((y131_2 + 1)).toNatClampNeg)))), (4, .int y192_4), (5, .int y221_5), (6, .long ((mYy m221 17 y192_4.toNatClampNeg))), (8, .int r225), (9, .int y235_9)], [.int ((mX m131 19 (((y131_2 + 1)).toNatClampNeg))), .long ((((mYy m221 17 y192_4.toNatClampNeg)) + r241)), .ref 0])) rfl ?_
                                      obtain ⟨m242, g242, h⟩ := b3_some h
                                      refine rcV 195 0 [.long ((((mYy m221 17 y192_4.toNatClampNeg)) + r241)), .int ((mX m131 19 (((y131_2 + 1)).toNatClampNeg)))] rfl rfl rfl (hSh.k 0 rfl _) (Nat.le_of_ble_eq_true rfl) rfl (e_Mo_lays N (by omega) hSh g242) ?_
                                      show RN xs L al (Ev xs L al d) 194 293 [(0, .ref 0), (1, .int x1), (2, .int y131_2), (3, .int ((mX m131 19 (((y131_2 + 1)).toNatClampNeg)))), (4, .int y192_4), (5, .int y221_5), (6, .long ((mYy m221 17 y192_4.toNatClampNeg))), (8, .int r225), (9, .int y235_9)] [] (m242, S) none (mf, S)
                                      refine rsn 2 (t := (245, [(9, .int ((y235_9 + 1))), (0, .ref 0), (1, .int x1), (2, .int y131_2), (3, .int ((mX m131 19 (((y131_2 + 1)).toNatClampNeg)))), (4, .int y192_4), (5, .int y221_5), (6, .long ((mYy m221 17 y192_4.toNatClampNeg))), (8, .int r225)], [])) rfl ?_
                                      exact rsub [(0, .ref 0), (1, .int x1), (2, .int y131_2), (3, .int ((mX m131 19 (((y131_2 + 1)).toNatClampNeg)))), (4, .int y192_4), (5, .int y221_5), (6, .long ((mYy m221 17 y192_4.toNatClampNeg))), (8, .int r225), (9, .int ((y235_9 + 1)))] ⟨rfl, ⟨rfl, ⟨rfl, ⟨rfl, ⟨rfl, ⟨rfl, ⟨rfl, ⟨rfl, ⟨rfl, trivial⟩⟩⟩⟩⟩⟩⟩⟩⟩ ⟨rfl, ⟨rfl, ⟨rfl, ⟨rfl, ⟨rfl, ⟨rfl, ⟨rfl, ⟨rfl, ⟨rfl, trivial⟩⟩⟩⟩⟩⟩⟩⟩⟩ (ih245 ((y235_9 + 1)) m242 h)
                                  · rw [if_neg c237] at h
                                    refine rjt (a := (299, [(0, .ref 0), (1, .int x1), (2, .int y131_2), (3, .int ((mX m131 19 (((y131_2 + 1)).toNatClampNeg)))), (4, .int y192_4), (5, .int y221_5), (6, .long ((mYy m221 17 y192_4.toNatClampNeg))), (8, .int r225), (9, .int y235_9)], [])) (b := (256, [(0, .ref 0), (1, .int x1), (2, .int y131_2), (3, .int ((mX m131 19 (((y131_2 + 1)).toNatClampNeg)))), (4, .int y192_4), (5, .int y221_5), (6, .long ((mYy m221 17 y192_4.toNatClampNeg))), (8, .int r225), (9, .int y235_9)], [])) rfl rfl c237 ?_
                                    exact rsub [(0, .ref 0), (1, .int x1), (2, .int y131_2), (3, .int ((mX m131 19 (((y131_2 + 1)).toNatClampNeg)))), (4, .int y192_4), (5, .int y221_5)] ⟨rfl, ⟨rfl, ⟨rfl, ⟨rfl, ⟨rfl, ⟨rfl, trivial⟩⟩⟩⟩⟩⟩ ⟨rfl, ⟨rfl, ⟨rfl, ⟨rfl, ⟨rfl, ⟨rfl, trivial⟩⟩⟩⟩⟩⟩ (ex245 y235_9 m235 h)
                            exact rsub [(0, .ref 0), (1, .int x1), (2, .int y131_2), (3, .int ((mX m131 19 (((y131_2 + 1)).toNatClampNeg)))), (4, .int y192_4), (5, .int y221_5), (6, .long ((mYy m221 17 y192_4.toNatClampNeg))), (8, .int r225), (9, .int 0)] ⟨rfl, ⟨rfl, ⟨rfl, ⟨rfl, ⟨rfl, ⟨rfl, ⟨rfl, ⟨rfl, ⟨rfl, trivial⟩⟩⟩⟩⟩⟩⟩⟩⟩ ⟨rfl, ⟨rfl, ⟨rfl, ⟨rfl, ⟨rfl, ⟨rfl, ⟨rfl, ⟨rfl, ⟨rfl, trivial⟩⟩⟩⟩⟩⟩⟩⟩⟩ (lp245 N 0 m226 h)
                          rw [jn] at h
                          try dsimp only at h
                          by_cases c243 : r225 = 0
                          · rw [if_pos c243] at h
                            refine rjt (a := (242, [(8, .int r225), (6, .long ((mYy m221 17 y192_4.toNatClampNeg))), (0, .ref 0), (1, .int x1), (2, .int y131_2), (3, .int ((mX m131 19 (((y131_2 + 1)).toNatClampNeg)))), (4, .int y192_4), (5, .int y221_5)], [])) (b := (205, [(8, .int r225), (6, .long ((mYy m221 17 y192_4.toNatClampNeg))), (0, .ref 0), (1, .int x1), (2, .int y131_2), (3, .int ((mX m131 19 (((y131_2 + 1)).toNatClampNeg)))), (4, .int y192_4), (5, .int y221_5)], [])) rfl rfl c243 ?_
                            exact rsub [(0, .ref 0), (1, .int x1), (2, .int y131_2), (3, .int ((mX m131 19 (((y131_2 + 1)).toNatClampNeg)))), (4, .int y192_4), (5, .int y221_5), (6, .long ((mYy m221 17 y192_4.toNatClampNeg))), (8, .int r225)] ⟨rfl, ⟨rfl, ⟨rfl, ⟨rfl, ⟨rfl, ⟨rfl, ⟨rfl, ⟨rfl, trivial⟩⟩⟩⟩⟩⟩⟩⟩ ⟨rfl, ⟨rfl, ⟨rfl, ⟨rfl, ⟨rfl, ⟨rfl, ⟨rfl, ⟨rfl, trivial⟩⟩⟩⟩⟩⟩⟩⟩ (jp242 m221 h)
                          · rw [if_neg c243] at h
                            refine rjf (a := (242, [(8, .int r225), (6, .long ((mYy m221 17 y192_4.toNatClampNeg))), (0, .ref 0), (1, .int x1), (2, .int y131_2), (3, .int ((mX m131 19 (((y131_2 + 1)).toNatClampNeg)))), (4, .int y192_4), (5, .int y221_5)], [])) (b := (205, [(8, .int r225), (6, .long ((mYy m221 17 y192_4.toNatClampNeg))), (0, .ref 0), (1, .int x1), (2, .int y131_2), (3, .int ((mX m131 19 (((y131_2 + 1)).toNatClampNeg)))), (4, .int y192_4), (5, .int y221_5)], [])) rfl rfl c243 ?_
                            refine rsn 3 (t := (209, [(8, .int r225), (6, .long ((mYy m221 17 y192_4.toNatClampNeg))), (0, .ref 0), (1, .int x1), (2, .int y131_2), (3, .int ((mX m131 19 (((y131_2 + 1)).toNatClampNeg)))), (4, .int y192_4), (5, .int y221_5)], [.int 1, .int r225, .ref 0])) rfl ?_
                            have jp238 : ∀ (s244 : Int64), (((fun j242 => b3 (f_Mo_lays N s244 ((mX m131 19 (((y131_2 + 1)).toNatClampNeg))) m221) fun m245 => j242 m245) (fun (m226 : Mm) => f_Mo_laysAll_L245 N x1 y131_2 ((mX m131 19 (((y131_2 + 1)).toNatClampNeg))) y192_4 y221_5 ((mYy m221 17 y192_4.toNatClampNeg)) r225 (fun (z234_9 : Int32) (m234 : Mm) => f_Mo_laysAll_L160 N x1 y131_2 ((mX m131 19 (((y131_2 + 1)).toNatClampNeg))) y192_4 (fun (z220_5 : Int32) (m220 : Mm) => f_Mo_laysAll_L151 N x1 y131_2 ((mX m131 19 (((y131_2 + 1)).toNatClampNeg))) (fun (z190_4 : Int32) (m190 : Mm) => ck (ix ((y131_2 + 2)) 9) (f_Mo_laysAll_L126 N x1 (fun (z130_2 : Int32) (m130 : Mm) => some m130) n126 ((y131_2 + 1)) ((vX m190 19 (((y131_2 + 2)).toNatClampNeg) ((mI m190 0 40)))))) n151 ((y192_4 + 1)) m220) n160 ((y221_5 + 1)) m234) N 0 m226))) = some mf → RN xs L al (Ev xs L al d) 194 238 [(0, .ref 0), (1, .int x1), (2, .int y131_2), (3, .int ((mX m131 19 (((y131_2 + 1)).toNatClampNeg)))), (4, .int y192_4), (5, .int y221_5), (6, .long ((mYy m221 17 y192_4.toNatClampNeg))), (8, .int r225)] [.long s244, .ref 0] (m221, S) none (mf, S) := by
                              intro s244 h
                              try dsimp only at h
                              refine rsn 1 (t := (239, [(0, .ref 0), (1, .int x1), (2, .int y131_2), (3, .int ((mX m131 19 (((y131_2 + 1)).toNatClampNeg)))), (4, .int y192_4), (5, .int y221_5), (6, .long ((mYy m221 17 y192_4.toNatClampNeg))), (8, .int r225)], [.int ((mX m131 19 (((y131_2 + 1)).toNatClampNeg))), .long s244, .ref 0])) rfl ?_
                              obtain ⟨m245, g245, h⟩ := b3_some h
                              refine rcV 195 0 [.long s244, .int ((mX m131 19 (((y131_2 + 1)).toNatClampNeg)))] rfl rfl rfl (hSh.k 0 rfl _) (Nat.le_of_ble_eq_true rfl) rfl (e_Mo_lays N (by omega) hSh g245) ?_
                              show RN xs L al (Ev xs L al d) 194 242 [(0, .ref 0), (1, .int x1), (2, .int y131_2), (3, .int ((mX m131 19 (((y131_2 + 1)).toNatClampNeg)))), (4, .int y192_4), (5, .int y221_5), (6, .long ((mYy m221 17 y192_4.toNatClampNeg))), (8, .int r225)] [] (m245, S) none (mf, S)
                              exact rsub [(0, .ref 0), (1, .int x1), (2, .int y131_2), (3, .int ((mX m131 19 (((y131_2 + 1)).toNatClampNeg)))), (4, .int y192_4), (5, .int y221_5), (6, .long ((mYy m221 17 y192_4.toNatClampNeg))), (8, .int r225)] ⟨rfl, ⟨rfl, ⟨rfl, ⟨rfl, ⟨rfl, ⟨rfl, ⟨rfl, ⟨rfl, trivial⟩⟩⟩⟩⟩⟩⟩⟩ ⟨rfl, ⟨rfl, ⟨rfl, ⟨rfl, ⟨rfl, ⟨rfl, ⟨rfl, ⟨rfl, trivial⟩⟩⟩⟩⟩⟩⟩⟩ (jp242 m245 h)
                            rw [jn] at h
                            try dsimp only at h
                            by_cases c246 : r225 = 1
                            · rw [if_pos c246] at h
                              refine rjf (a := (236, [(8, .int r225), (6, .long ((mYy m221 17 y192_4.toNatClampNeg))), (0, .ref 0), (1, .int x1), (2, .int y131_2), (3, .int ((mX m131 19 (((y131_2 + 1)).toNatClampNeg)))), (4, .int y192_4), (5, .int y221_5)], [.ref 0])) (b := (212, [(8, .int r225), (6, .long ((mYy m221 17 y192_4.toNatClampNeg))), (0, .ref 0), (1, .int x1), (2, .int y131_2), (3, .int ((mX m131 19 (((y131_2 + 1)).toNatClampNeg)))), (4, .int y192_4), (5, .int y221_5)], [.ref 0])) rfl rfl (fun q => q c246) ?_
                              refine rsn 5 (t := (219, [(8, .int r225), (6, .long ((mYy m221 17 y192_4.toNatClampNeg))), (0, .ref 0), (1, .int x1), (2, .int y131_2), (3, .int ((mX m131 19 (((y131_2 + 1)).toNatClampNeg)))), (4, .int y192_4), (5, .int y221_5)], [.ref 0, .ref 0, .int 36, .long 1, .long ((mYy m221 17 y192_4.toNatClampNeg)), .ref 0])) rfl ?_
                              refine pgI rfl rfl rfl (hSh.k 0 rfl _) ?_
                              show RN xs L al (Ev xs L al d) 194 222 [(8, .int r225), (6, .long ((mYy m221 17 y192_4.toNatClampNeg))), (0, .ref 0), (1, .int x1), (2, .int y131_2), (3, .int ((mX m131 19 (((y131_2 + 1)).toNatClampNeg)))), (4, .int y192_4), (5, .int y221_5)] [.int ((mI m221 0 24)), .ref 0, .int 36, .long 1, .long ((mYy m221 17 y192_4.toNatClampNeg)), .ref 0] (m221, S) none (mf, S)
                              refine rsn 4 (t := (227, [(8, .int r225), (6, .long ((mYy m221 17 y192_4.toNatClampNeg))), (0, .ref 0), (1, .int x1), (2, .int y131_2), (3, .int ((mX m131 19 (((y131_2 + 1)).toNatClampNeg)))), (4, .int y192_4), (5, .int y221_5)], [.int 2, .int y221_5, .int ((((mI m221 0 24)) + y131_2)), .ref 0, .int 36, .long 1, .long ((mYy m221 17 y192_4.toNatClampNeg)), .ref 0])) rfl ?_
                              obtain ⟨r247, g247, h⟩ := b1_some h
                              refine rcV 177 0 [.int ((((mI m221 0 24)) + y131_2)), .int y221_5, .int 2] rfl rfl rfl (hSh.k 0 rfl _) (Nat.le_of_ble_eq_true rfl) rfl (e_Mo_altOf N (by omega) hSh g247) ?_
                              show RN xs L al (Ev xs L al d) 194 230 [(8, .int r225), (6, .long ((mYy m221 17 y192_4.toNatClampNeg))), (0, .ref 0), (1, .int x1), (2, .int y131_2), (3, .int ((mX m131 19 (((y131_2 + 1)).toNatClampNeg)))), (4, .int y192_4), (5, .int y221_5)] [.int r247, .int 36, .long 1, .long ((mYy m221 17 y192_4.toNatClampNeg)), .ref 0] (m221, S) none (mf, S)
                              refine rsn 1 (t := (231, [(8, .int r225), (6, .long ((mYy m221 17 y192_4.toNatClampNeg))), (0, .ref 0), (1, .int x1), (2, .int y131_2), (3, .int ((mX m131 19 (((y131_2 + 1)).toNatClampNeg)))), (4, .int y192_4), (5, .int y221_5)], [.int ((36 + r247)), .long 1, .long ((mYy m221 17 y192_4.toNatClampNeg)), .ref 0])) rfl ?_
                              refine rsn 1 (t := (232, [(8, .int r225), (6, .long ((mYy m221 17 y192_4.toNatClampNeg))), (0, .ref 0), (1, .int x1), (2, .int y131_2), (3, .int ((mX m131 19 (((y131_2 + 1)).toNatClampNeg)))), (4, .int y192_4), (5, .int y221_5)], [.long ((lsl 1 ((36 + r247)))), .long ((mYy m221 17 y192_4.toNatClampNeg)), .ref 0])) rfl ?_
                              refine rsn 2 (t := (238, [(8, .int r225), (6, .long ((mYy m221 17 y192_4.toNatClampNeg))), (0, .ref 0), (1, .int x1), (2, .int y131_2), (3, .int ((mX m131 19 (((y131_2 + 1)).toNatClampNeg)))), (4, .int y192_4), (5, .int y221_5)], [.long ((((mYy m221 17 y192_4.toNatClampNeg)) ||| ((lsl 1 ((36 + r247)))))), .ref 0])) rfl ?_
                              exact rsub [(0, .ref 0), (1, .int x1), (2, .int y131_2), (3, .int ((mX m131 19 (((y131_2 + 1)).toNatClampNeg)))), (4, .int y192_4), (5, .int y221_5), (6, .long ((mYy m221 17 y192_4.toNatClampNeg))), (8, .int r225)] ⟨rfl, ⟨rfl, ⟨rfl, ⟨rfl, ⟨rfl, ⟨rfl, ⟨rfl, ⟨rfl, trivial⟩⟩⟩⟩⟩⟩⟩⟩ ⟨rfl, ⟨rfl, ⟨rfl, ⟨rfl, ⟨rfl, ⟨rfl, ⟨rfl, ⟨rfl, trivial⟩⟩⟩⟩⟩⟩⟩⟩ (jp238 ((((mYy m221 17 y192_4.toNatClampNeg)) ||| ((lsl 1 ((36 + r247)))))) h)
                            · rw [if_neg c246] at h
                              refine rjt (a := (236, [(8, .int r225), (6, .long ((mYy m221 17 y192_4.toNatClampNeg))), (0, .ref 0), (1, .int x1), (2, .int y131_2), (3, .int ((mX m131 19 (((y131_2 + 1)).toNatClampNeg)))), (4, .int y192_4), (5, .int y221_5)], [.ref 0])) (b := (212, [(8, .int r225), (6, .long ((mYy m221 17 y192_4.toNatClampNeg))), (0, .ref 0), (1, .int x1), (2, .int y131_2), (3, .int ((mX m131 19 (((y131_2 + 1)).toNatClampNeg)))), (4, .int y192_4), (5, .int y221_5)], [.ref 0])) rfl rfl c246 ?_
                              refine rsn 1 (t := (238, [(8, .int r225), (6, .long ((mYy m221 17 y192_4.toNatClampNeg))), (0, .ref 0), (1, .int x1), (2, .int y131_2), (3, .int ((mX m131 19 (((y131_2 + 1)).toNatClampNeg)))), (4, .int y192_4), (5, .int y221_5)], [.long ((mYy m221 17 y192_4.toNatClampNeg)), .ref 0])) rfl ?_
                              exact rsub [(0, .ref 0), (1, .int x1), (2, .int y131_2), (3, .int ((mX m131 19 (((y131_2 + 1)).toNatClampNeg)))), (4, .int y192_4), (5, .int y221_5), (6, .long ((mYy m221 17 y192_4.toNatClampNeg))), (8, .int r225)] ⟨rfl, ⟨rfl, ⟨rfl, ⟨rfl, ⟨rfl, ⟨rfl, ⟨rfl, ⟨rfl, trivial⟩⟩⟩⟩⟩⟩⟩⟩ ⟨rfl, ⟨rfl, ⟨rfl, ⟨rfl, ⟨rfl, ⟨rfl, ⟨rfl, ⟨rfl, trivial⟩⟩⟩⟩⟩⟩⟩⟩ (jp238 ((mYy m221 17 y192_4.toNatClampNeg)) h)
                    exact rsub [(0, .ref 0), (1, .int x1), (2, .int y131_2), (3, .int ((mX m131 19 (((y131_2 + 1)).toNatClampNeg)))), (4, .int y192_4), (5, .int 0)] ⟨rfl, ⟨rfl, ⟨rfl, ⟨rfl, ⟨rfl, ⟨rfl, trivial⟩⟩⟩⟩⟩⟩ ⟨rfl, ⟨rfl, ⟨rfl, ⟨rfl, ⟨rfl, ⟨rfl, trivial⟩⟩⟩⟩⟩⟩ (lp160 N 0 m192 h)
              exact rsub [(0, .ref 0), (1, .int x1), (2, .int y131_2), (3, .int ((mX m131 19 (((y131_2 + 1)).toNatClampNeg)))), (4, .int ((mX m131 19 y131_2.toNatClampNeg)))] ⟨rfl, ⟨rfl, ⟨rfl, ⟨rfl, ⟨rfl, trivial⟩⟩⟩⟩⟩ ⟨rfl, ⟨rfl, ⟨rfl, ⟨rfl, ⟨rfl, trivial⟩⟩⟩⟩⟩ (lp151 N ((mX m131 19 y131_2.toNatClampNeg)) m131 h)
        exact rsub [(0, .ref 0), (1, .int x1), (2, .int 0)] ⟨rfl, ⟨rfl, ⟨rfl, trivial⟩⟩⟩ ⟨rfl, ⟨rfl, ⟨rfl, trivial⟩⟩⟩ (lp126 N 0 (vX m12 19 ((1 : Int32).toNatClampNeg) ((mI m12 0 40))) h)
      have lp65 : ∀ (n : Nat) (y248_2 : Int32) (m248 : Mm), (f_Mo_laysAll_L65 N x1 (fun (z12_2 : Int32) (m12 : Mm) => ck (ix (1 : Int32) 9) (f_Mo_laysAll_L126 N x1 (fun (z130_2 : Int32) (m130 : Mm) => some m130) N 0 (vX m12 19 ((1 : Int32).toNatClampNeg) ((mI m12 0 40))))) n y248_2 m248) = some mf → RN xs L al (Ev xs L al d) 194 65 [(0, .ref 0), (1, .int x1), (2, .int y248_2)] [] (m248, S) none (mf, S) := by
        intro n
        induction n with
        | zero => intro y248_2 m248 h; exact absurd h (by simp [f_Mo_laysAll_L65])
        | succ n65 ih65 =>
          intro y248_2 m248 h
          try dsimp only at h
          rw [f_Mo_laysAll_L65] at h
          try dsimp only at h
          refine rsn 2 (t := (67, [(0, .ref 0), (1, .int x1), (2, .int y248_2)], [.int 3, .int y248_2])) rfl ?_
          by_cases c249 : 3 < y248_2
          · rw [if_pos c249] at h
            refine rjt (a := (114, [(0, .ref 0), (1, .int x1), (2, .int y248_2)], [])) (b := (70, [(0, .ref 0), (1, .int x1), (2, .int y248_2)], [])) rfl rfl c249 ?_
            exact rsub [(0, .ref 0), (1, .int x1)] ⟨rfl, ⟨rfl, trivial⟩⟩ ⟨rfl, ⟨rfl, trivial⟩⟩ (ex65 y248_2 m248 h)
          · rw [if_neg c249] at h
            refine rjf (a := (114, [(0, .ref 0), (1, .int x1), (2, .int y248_2)], [])) (b := (70, [(0, .ref 0), (1, .int x1), (2, .int y248_2)], [])) rfl rfl c249 ?_
            refine rsn 1 (t := (71, [(0, .ref 0), (1, .int x1), (2, .int y248_2)], [.ref 0])) rfl ?_
            refine pgI rfl rfl rfl (hSh.k 0 rfl _) ?_
            show RN xs L al (Ev xs L al d) 194 74 [(0, .ref 0), (1, .int x1), (2, .int y248_2)] [.int ((mI m248 0 25))] (m248, S) none (mf, S)
            refine rsn 1 (t := (75, [(0, .ref 0), (1, .int x1), (2, .int y248_2)], [.int ((-1)), .int ((mI m248 0 25))])) rfl ?_
            by_cases c250 : ((mI m248 0 25)) = ((-1))
            · rw [if_pos c250] at h
              refine rjt (a := (114, [(0, .ref 0), (1, .int x1), (2, .int y248_2)], [])) (b := (78, [(0, .ref 0), (1, .int x1), (2, .int y248_2)], [])) rfl rfl c250 ?_
              exact rsub [(0, .ref 0), (1, .int x1)] ⟨rfl, ⟨rfl, trivial⟩⟩ ⟨rfl, ⟨rfl, trivial⟩⟩ (ex65 y248_2 m248 h)
            · rw [if_neg c250] at h
              refine rjf (a := (114, [(0, .ref 0), (1, .int x1), (2, .int y248_2)], [])) (b := (78, [(0, .ref 0), (1, .int x1), (2, .int y248_2)], [])) rfl rfl c250 ?_
              refine rsn 1 (t := (79, [(0, .ref 0), (1, .int x1), (2, .int y248_2)], [.ref 0])) rfl ?_
              refine pgJ rfl rfl rfl (hSh.k 0 rfl _) ?_
              show RN xs L al (Ev xs L al d) 194 82 [(0, .ref 0), (1, .int x1), (2, .int y248_2)] [.long ((mJ m248 0 23))] (m248, S) none (mf, S)
              refine rsn 2 (t := (84, [(0, .ref 0), (1, .int x1), (2, .int y248_2)], [.int x1, .int y248_2, .long ((mJ m248 0 23))])) rfl ?_
              obtain ⟨r251, g251, h⟩ := b1_some h
              refine rcS 180 [.long ((mJ m248 0 23)), .int y248_2, .int x1] rfl rfl rfl (Nat.le_of_ble_eq_true rfl) rfl (e_Mo_mayGive N (by omega) g251) ?_
              show RN xs L al (Ev xs L al d) 194 87 [(0, .ref 0), (1, .int x1), (2, .int y248_2)] [.int r251] (m248, S) none (mf, S)
              by_cases c252 : r251 = 0
              · rw [if_pos c252] at h
                refine rjt (a := (108, [(0, .ref 0), (1, .int x1), (2, .int y248_2)], [])) (b := (90, [(0, .ref 0), (1, .int x1), (2, .int y248_2)], [])) rfl rfl c252 ?_
                refine rsn 2 (t := (65, [(2, .int ((y248_2 + 1))), (0, .ref 0), (1, .int x1)], [])) rfl ?_
                exact rsub [(0, .ref 0), (1, .int x1), (2, .int ((y248_2 + 1)))] ⟨rfl, ⟨rfl, ⟨rfl, trivial⟩⟩⟩ ⟨rfl, ⟨rfl, ⟨rfl, trivial⟩⟩⟩ (ih65 ((y248_2 + 1)) m248 h)
              · rw [if_neg c252] at h
                refine rjf (a := (108, [(0, .ref 0), (1, .int x1), (2, .int y248_2)], [])) (b := (90, [(0, .ref 0), (1, .int x1), (2, .int y248_2)], [])) rfl rfl c252 ?_
                refine rsn 2 (t := (92, [(0, .ref 0), (1, .int x1), (2, .int y248_2)], [.ref 0, .ref 0])) rfl ?_
                refine pgJ rfl rfl rfl (hSh.k 0 rfl _) ?_
                show RN xs L al (Ev xs L al d) 194 95 [(0, .ref 0), (1, .int x1), (2, .int y248_2)] [.long ((mJ m248 0 23)), .ref 0] (m248, S) none (mf, S)
                refine rsn 2 (t := (97, [(0, .ref 0), (1, .int x1), (2, .int y248_2)], [.ref 0, .int y248_2, .long ((mJ m248 0 23)), .ref 0])) rfl ?_
                refine pgI rfl rfl rfl (hSh.k 0 rfl _) ?_
                show RN xs L al (Ev xs L al d) 194 100 [(0, .ref 0), (1, .int x1), (2, .int y248_2)] [.int ((mI m248 0 25)), .int y248_2, .long ((mJ m248 0 23)), .ref 0] (m248, S) none (mf, S)
                obtain ⟨r253, g253, h⟩ := b1_some h
                refine rcS 182 [.int y248_2, .int ((mI m248 0 25))] rfl rfl rfl (Nat.le_of_ble_eq_true rfl) rfl (e_Mo_one N (by omega) g253) ?_
                show RN xs L al (Ev xs L al d) 194 103 [(0, .ref 0), (1, .int x1), (2, .int y248_2)] [.long r253, .long ((mJ m248 0 23)), .ref 0] (m248, S) none (mf, S)
                refine rsn 2 (t := (105, [(0, .ref 0), (1, .int x1), (2, .int y248_2)], [.int 0, .long ((((mJ m248 0 23)) + r253)), .ref 0])) rfl ?_
                obtain ⟨m254, g254, h⟩ := b3_some h
                refine rcV 195 0 [.long ((((mJ m248 0 23)) + r253)), .int 0] rfl rfl rfl (hSh.k 0 rfl _) (Nat.le_of_ble_eq_true rfl) rfl (e_Mo_lays N (by omega) hSh g254) ?_
                show RN xs L al (Ev xs L al d) 194 108 [(0, .ref 0), (1, .int x1), (2, .int y248_2)] [] (m254, S) none (mf, S)
                refine rsn 2 (t := (65, [(2, .int ((y248_2 + 1))), (0, .ref 0), (1, .int x1)], [])) rfl ?_
                exact rsub [(0, .ref 0), (1, .int x1), (2, .int ((y248_2 + 1)))] ⟨rfl, ⟨rfl, ⟨rfl, trivial⟩⟩⟩ ⟨rfl, ⟨rfl, ⟨rfl, trivial⟩⟩⟩ (ih65 ((y248_2 + 1)) m254 h)
      exact rsub [(0, .ref 0), (1, .int x1), (2, .int 0)] ⟨rfl, ⟨rfl, ⟨rfl, trivial⟩⟩⟩ ⟨rfl, ⟨rfl, ⟨rfl, trivial⟩⟩⟩ (lp65 N 0 m5 h)
    rw [jn] at h
    try dsimp only at h
    by_cases c255 : ((mI m3 0 25)) = ((-1))
    · rw [if_pos c255] at h
      refine rjf (a := (63, [(0, .ref 0), (1, .int x1)], [])) (b := (54, [(0, .ref 0), (1, .int x1)], [])) rfl rfl (fun q => q c255) ?_
      refine rsn 2 (t := (56, [(0, .ref 0), (1, .int x1)], [.ref 0, .ref 0])) rfl ?_
      refine pgJ rfl rfl rfl (hSh.k 0 rfl _) ?_
      show RN xs L al (Ev xs L al d) 194 59 [(0, .ref 0), (1, .int x1)] [.long ((mJ m3 0 23)), .ref 0] ((vX (vI (vI m3 0 40 0) 0 39 ((((mI m3 0 18)) - ((mI m3 0 24))))) 19 ((0 : Int32).toNatClampNeg) 0), S) none (mf, S)
      refine rsn 1 (t := (60, [(0, .ref 0), (1, .int x1)], [.int 0, .long ((mJ m3 0 23)), .ref 0])) rfl ?_
      obtain ⟨m256, g256, h⟩ := b3_some h
      refine rcV 195 0 [.long ((mJ m3 0 23)), .int 0] rfl rfl rfl (hSh.k 0 rfl _) (Nat.le_of_ble_eq_true rfl) rfl (e_Mo_lays N (by omega) hSh g256) ?_
      show RN xs L al (Ev xs L al d) 194 63 [(0, .ref 0), (1, .int x1)] [] (m256, S) none (mf, S)
      exact rsub [(0, .ref 0), (1, .int x1)] ⟨rfl, ⟨rfl, trivial⟩⟩ ⟨rfl, ⟨rfl, trivial⟩⟩ (jp63 m256 h)
    · rw [if_neg c255] at h
      refine rjt (a := (63, [(0, .ref 0), (1, .int x1)], [])) (b := (54, [(0, .ref 0), (1, .int x1)], [])) rfl rfl c255 ?_
      exact rsub [(0, .ref 0), (1, .int x1)] ⟨rfl, ⟨rfl, trivial⟩⟩ ⟨rfl, ⟨rfl, trivial⟩⟩ (jp63 ((vX (vI (vI m3 0 40 0) 0 39 ((((mI m3 0 18)) - ((mI m3 0 24))))) 19 ((0 : Int32).toNatClampNeg) 0)) h)
  have lp2 : ∀ (n : Nat) (y257_2 : Int32) (m257 : Mm), (f_Mo_laysAll_L2 N x1 (fun (z3_2 : Int32) (m3 : Mm) => ck (ix (0 : Int32) 9) ((jn (fun (m5 : Mm) => f_Mo_laysAll_L65 N x1 (fun (z12_2 : Int32) (m12 : Mm) => ck (ix (1 : Int32) 9) (f_Mo_laysAll_L126 N x1 (fun (z130_2 : Int32) (m130 : Mm) => some m130) N 0 (vX m12 19 ((1 : Int32).toNatClampNeg) ((mI m12 0 40))))) N 0 m5) (fun j63 => if ((mI m3 0 25)) = ((-1)) then b3 (f_Mo_lays N ((mJ m3 0 23)) 0 (vX (vI (vI m3 0 40 0) 0 39 ((((mI m3 0 18)) - ((mI m3 0 24))))) 19 ((0 : Int32).toNatClampNeg) 0)) fun m256 => j63 m256 else j63 ((vX (vI (vI m3 0 40 0) 0 39 ((((mI m3 0 18)) - ((mI m3 0 24))))) 19 ((0 : Int32).toNatClampNeg) 0)))))) n y257_2 m257) = some mf → RN xs L al (Ev xs L al d) 194 2 [(0, .ref 0), (1, .int x1), (2, .int y257_2)] [] (m257, S) none (mf, S) := by
    intro n
    induction n with
    | zero => intro y257_2 m257 h; exact absurd h (by simp [f_Mo_laysAll_L2])
    | succ n2 ih2 =>
      intro y257_2 m257 h
      try dsimp only at h
      rw [f_Mo_laysAll_L2] at h
      try dsimp only at h
      refine rsn 2 (t := (5, [(0, .ref 0), (1, .int x1), (2, .int y257_2)], [.int 524288, .int y257_2])) rfl ?_
      by_cases c258 : 524288 ≤ y257_2
      · rw [if_pos c258] at h
        refine rjt (a := (21, [(0, .ref 0), (1, .int x1), (2, .int y257_2)], [])) (b := (8, [(0, .ref 0), (1, .int x1), (2, .int y257_2)], [])) rfl rfl c258 ?_
        exact rsub [(0, .ref 0), (1, .int x1)] ⟨rfl, ⟨rfl, trivial⟩⟩ ⟨rfl, ⟨rfl, trivial⟩⟩ (ex2 y257_2 m257 h)
      · rw [if_neg c258] at h
        refine rjf (a := (21, [(0, .ref 0), (1, .int x1), (2, .int y257_2)], [])) (b := (8, [(0, .ref 0), (1, .int x1), (2, .int y257_2)], [])) rfl rfl c258 ?_
        refine rsn 1 (t := (9, [(0, .ref 0), (1, .int x1), (2, .int y257_2)], [.ref 0])) rfl ?_
        refine rgR rfl rfl rfl (hSh.k 0 rfl _) (hSh.r 19 rfl _) ?_
        refine rsn 2 (t := (14, [(0, .ref 0), (1, .int x1), (2, .int y257_2)], [.int 0, .int y257_2, .ref 20])) rfl ?_
        obtain ⟨c259, h⟩ := ck_some h
        refine psI rfl (hSh.k 20 rfl _) (hSh.l 19 rfl _) c259 ?_
        refine rsn 2 (t := (2, [(2, .int ((y257_2 + 1))), (0, .ref 0), (1, .int x1)], [])) rfl ?_
        exact rsub [(0, .ref 0), (1, .int x1), (2, .int ((y257_2 + 1)))] ⟨rfl, ⟨rfl, ⟨rfl, trivial⟩⟩⟩ ⟨rfl, ⟨rfl, ⟨rfl, trivial⟩⟩⟩ (ih2 ((y257_2 + 1)) ((vX m257 20 y257_2.toNatClampNeg 0)) h)
  exact rsub [(0, .ref 0), (1, .int x1), (2, .int 0)] ⟨rfl, ⟨rfl, ⟨rfl, trivial⟩⟩⟩ ⟨rfl, ⟨rfl, ⟨rfl, trivial⟩⟩⟩ (lp2 N 0 m h)
def f_Mo_valueOf (N : Nat) (x1 : Int64) (x3 : Int32) (m : Mm) : Option (Int64) := ck (ix x3 9) (ck (ix ((x3 + 1)) 9) (b1 (f_Mo_placeOf N x1 ((mX m 19 x3.toNatClampNeg)) ((mX m 19 (((x3 + 1)).toNatClampNeg))) m) fun r3 => ck (ix r3 524288) (ck (ix ((((mX m 20 r3.toNatClampNeg)) - 1)) 160000) (some ((mYy m 18 (((((mX m 20 r3.toNatClampNeg)) - 1)).toNatClampNeg)))))))
set_option maxRecDepth 20000 in
set_option maxHeartbeats 4000000 in
theorem e_Mo_valueOf {xs : Nat → Int32} {L : Nat} {al : Bool} (N : Nat) {d : Nat} (hd : 2 ≤ d) {S : St} (hSh : ShR S) {x1 : Int64} {x3 : Int32} {m : Mm} {r0 : Int64} (h : f_Mo_valueOf N x1 x3 m = some r0) : Ev xs L al d 198 [.ref 0, .long x1, .int x3] (m, S) (some (.long r0)) (m, S) := by
  obtain ⟨d, rfl⟩ : ∃ e, d = e + 1 := ⟨d - 1, by omega⟩
  refine ev_of (by decide) (Nat.le_of_ble_eq_true rfl) ?_
  rw [f_Mo_valueOf] at h
  show RN xs L al (Ev xs L al d) 198 0 [(0, .ref 0), (1, .long x1), (3, .int x3)] [] (m, S) (some (.long r0)) (m, S)
  refine rsn 1 (t := (1, [(0, .ref 0), (1, .long x1), (3, .int x3)], [.ref 0])) rfl ?_
  refine rgR rfl rfl rfl (hSh.k 0 rfl _) (hSh.r 17 rfl _) ?_
  refine rsn 1 (t := (5, [(0, .ref 0), (1, .long x1), (3, .int x3)], [.ref 0, .ref 18])) rfl ?_
  refine rgR rfl rfl rfl (hSh.k 0 rfl _) (hSh.r 19 rfl _) ?_
  refine rsn 3 (t := (11, [(0, .ref 0), (1, .long x1), (3, .int x3)], [.ref 0, .long x1, .ref 0, .ref 20, .ref 18])) rfl ?_
  refine rgR rfl rfl rfl (hSh.k 0 rfl _) (hSh.r 18 rfl _) ?_
  refine rsn 1 (t := (15, [(0, .ref 0), (1, .long x1), (3, .int x3)], [.int x3, .ref 19, .long x1, .ref 0, .ref 20, .ref 18])) rfl ?_
  obtain ⟨c1, h⟩ := ck_some h
  refine pxI rfl (hSh.k 19 rfl _) (hSh.l 18 rfl _) c1 ?_
  show RN xs L al (Ev xs L al d) 198 16 [(0, .ref 0), (1, .long x1), (3, .int x3)] [.int ((mX m 19 x3.toNatClampNeg)), .long x1, .ref 0, .ref 20, .ref 18] (m, S) (some (.long r0)) (m, S)
  refine rsn 1 (t := (17, [(0, .ref 0), (1, .long x1), (3, .int x3)], [.ref 0, .int ((mX m 19 x3.toNatClampNeg)), .long x1, .ref 0, .ref 20, .ref 18])) rfl ?_
  refine rgR rfl rfl rfl (hSh.k 0 rfl _) (hSh.r 18 rfl _) ?_
  refine rsn 3 (t := (23, [(0, .ref 0), (1, .long x1), (3, .int x3)], [.int ((x3 + 1)), .ref 19, .int ((mX m 19 x3.toNatClampNeg)), .long x1, .ref 0, .ref 20, .ref 18])) rfl ?_
  obtain ⟨c2, h⟩ := ck_some h
  refine pxI rfl (hSh.k 19 rfl _) (hSh.l 18 rfl _) c2 ?_
  show RN xs L al (Ev xs L al d) 198 24 [(0, .ref 0), (1, .long x1), (3, .int x3)] [.int ((mX m 19 (((x3 + 1)).toNatClampNeg))), .int ((mX m 19 x3.toNatClampNeg)), .long x1, .ref 0, .ref 20, .ref 18] (m, S) (some (.long r0)) (m, S)
  obtain ⟨r3, g3, h⟩ := b1_some h
  refine rcV 196 0 [.long x1, .int ((mX m 19 x3.toNatClampNeg)), .int ((mX m 19 (((x3 + 1)).toNatClampNeg)))] rfl rfl rfl (hSh.k 0 rfl _) (Nat.le_of_ble_eq_true rfl) rfl (e_Mo_placeOf N (by omega) hSh g3) ?_
  show RN xs L al (Ev xs L al d) 198 27 [(0, .ref 0), (1, .long x1), (3, .int x3)] [.int r3, .ref 20, .ref 18] (m, S) (some (.long r0)) (m, S)
  obtain ⟨c4, h⟩ := ck_some h
  refine pxI rfl (hSh.k 20 rfl _) (hSh.l 19 rfl _) c4 ?_
  show RN xs L al (Ev xs L al d) 198 28 [(0, .ref 0), (1, .long x1), (3, .int x3)] [.int ((mX m 20 r3.toNatClampNeg)), .ref 18] (m, S) (some (.long r0)) (m, S)
  refine rsn 2 (t := (30, [(0, .ref 0), (1, .long x1), (3, .int x3)], [.int ((((mX m 20 r3.toNatClampNeg)) - 1)), .ref 18])) rfl ?_
  obtain ⟨c5, h⟩ := ck_some h
  refine pxJ rfl (hSh.k 18 rfl _) (hSh.l 17 rfl _) c5 ?_
  show RN xs L al (Ev xs L al d) 198 31 [(0, .ref 0), (1, .long x1), (3, .int x3)] [.long ((mYy m 18 (((((mX m 20 r3.toNatClampNeg)) - 1)).toNatClampNeg)))] (m, S) (some (.long r0)) (m, S)
  cases h
  exact rret rfl ⟨rfl, rfl, _, rfl, rfl, rfl⟩
def f_Mo_given_L23 (N : Nat) (x1 : Int64) (x3 : Int32) (x5 : Int32) (x6 : Int32) (m : Mm) (k23 : Int64 → Int32 → Option (Int64)) : Nat → Int64 → Int32 → Option (Int64)
  | 0, _, _ => none
  | n23 + 1, x7, x9 => (if 3 < x9 then k23 x7 x9 else b1 (f_Mo_mayGive N x1 x9 x5) fun r3 => (if r3 = 0 then f_Mo_given_L23 N x1 x3 x5 x6 m k23 n23 x7 ((x9 + 1)) else b1 (f_Mo_one N x9 x6) fun r5 => (if x7 = ((-1)) then f_Mo_given_L23 N x1 x3 x5 x6 m k23 n23 ((x1 + r5)) ((x9 + 1)) else b1 (f_Mo_valueOf N ((x1 + r5)) ((x3 + 1)) m) fun r7 => b1 (f_Mo_valueOf N x7 ((x3 + 1)) m) fun r8 => (if r7 ≤ r8 then f_Mo_given_L23 N x1 x3 x5 x6 m k23 n23 x7 ((x9 + 1)) else f_Mo_given_L23 N x1 x3 x5 x6 m k23 n23 ((x1 + r5)) ((x9 + 1))))))
def f_Mo_given (N : Nat) (x1 : Int64) (x3 : Int32) (x4 : Int32) (x5 : Int32) (m : Mm) : Option (Int64) := b1 (f_Mo_altOf N ((((mI m 0 24)) + x3)) x4 2 m) fun r1 => f_Mo_given_L23 N x1 x3 x5 r1 m (fun (z10_7 : Int64) (z10_9 : Int32) => some z10_7) N ((-1)) 0
set_option maxRecDepth 20000 in
set_option maxHeartbeats 4000000 in
theorem e_Mo_given {xs : Nat → Int32} {L : Nat} {al : Bool} (N : Nat) {d : Nat} (hd : 4 ≤ d) {S : St} (hSh : ShR S) {x1 : Int64} {x3 : Int32} {x4 : Int32} {x5 : Int32} {m : Mm} {r0 : Int64} (h : f_Mo_given N x1 x3 x4 x5 m = some r0) : Ev xs L al d 199 [.ref 0, .long x1, .int x3, .int x4, .int x5] (m, S) (some (.long r0)) (m, S) := by
  obtain ⟨d, rfl⟩ : ∃ e, d = e + 1 := ⟨d - 1, by omega⟩
  refine ev_of (by decide) (Nat.le_of_ble_eq_true rfl) ?_
  rw [f_Mo_given] at h
  show RN xs L al (Ev xs L al d) 199 0 [(0, .ref 0), (1, .long x1), (3, .int x3), (4, .int x4), (5, .int x5)] [] (m, S) (some (.long r0)) (m, S)
  refine rsn 2 (t := (2, [(0, .ref 0), (1, .long x1), (3, .int x3), (4, .int x4), (5, .int x5)], [.ref 0, .ref 0])) rfl ?_
  refine pgI rfl rfl rfl (hSh.k 0 rfl _) ?_
  show RN xs L al (Ev xs L al d) 199 5 [(0, .ref 0), (1, .long x1), (3, .int x3), (4, .int x4), (5, .int x5)] [.int ((mI m 0 24)), .ref 0] (m, S) (some (.long r0)) (m, S)
  refine rsn 4 (t := (10, [(0, .ref 0), (1, .long x1), (3, .int x3), (4, .int x4), (5, .int x5)], [.int 2, .int x4, .int ((((mI m 0 24)) + x3)), .ref 0])) rfl ?_
  obtain ⟨r1, g1, h⟩ := b1_some h
  refine rcV 177 0 [.int ((((mI m 0 24)) + x3)), .int x4, .int 2] rfl rfl rfl (hSh.k 0 rfl _) (Nat.le_of_ble_eq_true rfl) rfl (e_Mo_altOf N (by omega) hSh g1) ?_
  show RN xs L al (Ev xs L al d) 199 13 [(0, .ref 0), (1, .long x1), (3, .int x3), (4, .int x4), (5, .int x5)] [.int r1] (m, S) (some (.long r0)) (m, S)
  refine rsn 5 (t := (23, [(9, .int 0), (7, .long ((-1))), (6, .int r1), (0, .ref 0), (1, .long x1), (3, .int x3), (4, .int x4), (5, .int x5)], [])) rfl ?_
  have ex23 : ∀ (z10_7 : Int64) (z10_9 : Int32), (some z10_7) = some r0 → RN xs L al (Ev xs L al d) 199 95 [(7, .long z10_7)] [] (m, S) (some (.long r0)) (m, S) := by
    intro z10_7 z10_9 h
    try dsimp only at h
    refine rsn 1 (t := (97, [(7, .long z10_7)], [.long z10_7])) rfl ?_
    cases h
    exact rret rfl ⟨rfl, rfl, _, rfl, rfl, rfl⟩
  have lp23 : ∀ (n : Nat) (y11_7 : Int64) (y11_9 : Int32), (f_Mo_given_L23 N x1 x3 x5 r1 m (fun (z10_7 : Int64) (z10_9 : Int32) => some z10_7) n y11_7 y11_9) = some r0 → RN xs L al (Ev xs L al d) 199 23 [(0, .ref 0), (1, .long x1), (3, .int x3), (5, .int x5), (6, .int r1), (7, .long y11_7), (9, .int y11_9)] [] (m, S) (some (.long r0)) (m, S) := by
    intro n
    induction n with
    | zero => intro y11_7 y11_9 h; exact absurd h (by simp [f_Mo_given_L23])
    | succ n23 ih23 =>
      intro y11_7 y11_9 h
      try dsimp only at h
      rw [f_Mo_given_L23] at h
      try dsimp only at h
      refine rsn 2 (t := (26, [(0, .ref 0), (1, .long x1), (3, .int x3), (5, .int x5), (6, .int r1), (7, .long y11_7), (9, .int y11_9)], [.int 3, .int y11_9])) rfl ?_
      by_cases c12 : 3 < y11_9
      · rw [if_pos c12] at h
        refine rjt (a := (95, [(0, .ref 0), (1, .long x1), (3, .int x3), (5, .int x5), (6, .int r1), (7, .long y11_7), (9, .int y11_9)], [])) (b := (29, [(0, .ref 0), (1, .long x1), (3, .int x3), (5, .int x5), (6, .int r1), (7, .long y11_7), (9, .int y11_9)], [])) rfl rfl c12 ?_
        exact rsub [(7, .long y11_7)] ⟨rfl, trivial⟩ ⟨rfl, trivial⟩ (ex23 y11_7 y11_9 h)
      · rw [if_neg c12] at h
        refine rjf (a := (95, [(0, .ref 0), (1, .long x1), (3, .int x3), (5, .int x5), (6, .int r1), (7, .long y11_7), (9, .int y11_9)], [])) (b := (29, [(0, .ref 0), (1, .long x1), (3, .int x3), (5, .int x5), (6, .int r1), (7, .long y11_7), (9, .int y11_9)], [])) rfl rfl c12 ?_
        refine rsn 3 (t := (34, [(0, .ref 0), (1, .long x1), (3, .int x3), (5, .int x5), (6, .int r1), (7, .long y11_7), (9, .int y11_9)], [.int x5, .int y11_9, .long x1])) rfl ?_
        obtain ⟨r13, g13, h⟩ := b1_some h
        refine rcS 180 [.long x1, .int y11_9, .int x5] rfl rfl rfl (Nat.le_of_ble_eq_true rfl) rfl (e_Mo_mayGive N (by omega) g13) ?_
        show RN xs L al (Ev xs L al d) 199 37 [(0, .ref 0), (1, .long x1), (3, .int x3), (5, .int x5), (6, .int r1), (7, .long y11_7), (9, .int y11_9)] [.int r13] (m, S) (some (.long r0)) (m, S)
        by_cases c14 : r13 = 0
        · rw [if_pos c14] at h
          refine rjf (a := (43, [(0, .ref 0), (1, .long x1), (3, .int x3), (5, .int x5), (6, .int r1), (7, .long y11_7), (9, .int y11_9)], [])) (b := (40, [(0, .ref 0), (1, .long x1), (3, .int x3), (5, .int x5), (6, .int r1), (7, .long y11_7), (9, .int y11_9)], [])) rfl rfl (fun q => q c14) ?_
          refine rsn 3 (t := (23, [(9, .int ((y11_9 + 1))), (0, .ref 0), (1, .long x1), (3, .int x3), (5, .int x5), (6, .int r1), (7, .long y11_7)], [])) rfl ?_
          exact rsub [(0, .ref 0), (1, .long x1), (3, .int x3), (5, .int x5), (6, .int r1), (7, .long y11_7), (9, .int ((y11_9 + 1)))] ⟨rfl, ⟨rfl, ⟨rfl, ⟨rfl, ⟨rfl, ⟨rfl, ⟨rfl, trivial⟩⟩⟩⟩⟩⟩⟩ ⟨rfl, ⟨rfl, ⟨rfl, ⟨rfl, ⟨rfl, ⟨rfl, ⟨rfl, trivial⟩⟩⟩⟩⟩⟩⟩ (ih23 y11_7 ((y11_9 + 1)) h)
        · rw [if_neg c14] at h
          refine rjt (a := (43, [(0, .ref 0), (1, .long x1), (3, .int x3), (5, .int x5), (6, .int r1), (7, .long y11_7), (9, .int y11_9)], [])) (b := (40, [(0, .ref 0), (1, .long x1), (3, .int x3), (5, .int x5), (6, .int r1), (7, .long y11_7), (9, .int y11_9)], [])) rfl rfl c14 ?_
          refine rsn 3 (t := (48, [(0, .ref 0), (1, .long x1), (3, .int x3), (5, .int x5), (6, .int r1), (7, .long y11_7), (9, .int y11_9)], [.int r1, .int y11_9, .long x1])) rfl ?_
          obtain ⟨r15, g15, h⟩ := b1_some h
          refine rcS 182 [.int y11_9, .int r1] rfl rfl rfl (Nat.le_of_ble_eq_true rfl) rfl (e_Mo_one N (by omega) g15) ?_
          show RN xs L al (Ev xs L al d) 199 51 [(0, .ref 0), (1, .long x1), (3, .int x3), (5, .int x5), (6, .int r1), (7, .long y11_7), (9, .int y11_9)] [.long r15, .long x1] (m, S) (some (.long r0)) (m, S)
          refine rsn 5 (t := (60, [(10, .long ((x1 + r15))), (0, .ref 0), (1, .long x1), (3, .int x3), (5, .int x5), (6, .int r1), (7, .long y11_7), (9, .int y11_9)], [.int ((lg_cmp y11_7 ((-1))))])) rfl ?_
          by_cases c16 : y11_7 = ((-1))
          · rw [if_pos c16] at h
            refine rjt (a := (85, [(10, .long ((x1 + r15))), (0, .ref 0), (1, .long x1), (3, .int x3), (5, .int x5), (6, .int r1), (7, .long y11_7), (9, .int y11_9)], [])) (b := (63, [(10, .long ((x1 + r15))), (0, .ref 0), (1, .long x1), (3, .int x3), (5, .int x5), (6, .int r1), (7, .long y11_7), (9, .int y11_9)], [])) rfl rfl (lgc_eq.mpr c16) ?_
            refine rsn 4 (t := (23, [(9, .int ((y11_9 + 1))), (7, .long ((x1 + r15))), (10, .long ((x1 + r15))), (0, .ref 0), (1, .long x1), (3, .int x3), (5, .int x5), (6, .int r1)], [])) rfl ?_
            exact rsub [(0, .ref 0), (1, .long x1), (3, .int x3), (5, .int x5), (6, .int r1), (7, .long ((x1 + r15))), (9, .int ((y11_9 + 1)))] ⟨rfl, ⟨rfl, ⟨rfl, ⟨rfl, ⟨rfl, ⟨rfl, ⟨rfl, trivial⟩⟩⟩⟩⟩⟩⟩ ⟨rfl, ⟨rfl, ⟨rfl, ⟨rfl, ⟨rfl, ⟨rfl, ⟨rfl, trivial⟩⟩⟩⟩⟩⟩⟩ (ih23 ((x1 + r15)) ((y11_9 + 1)) h)
          · rw [if_neg c16] at h
            refine rjf (a := (85, [(10, .long ((x1 + r15))), (0, .ref 0), (1, .long x1), (3, .int x3), (5, .int x5), (6, .int r1), (7, .long y11_7), (9, .int y11_9)], [])) (b := (63, [(10, .long ((x1 + r15))), (0, .ref 0), (1, .long x1), (3, .int x3), (5, .int x5), (6, .int r1), (7, .long y11_7), (9, .int y11_9)], [])) rfl rfl (fun q => c16 (lgc_eq.mp q)) ?_
            refine rsn 5 (t := (69, [(10, .long ((x1 + r15))), (0, .ref 0), (1, .long x1), (3, .int x3), (5, .int x5), (6, .int r1), (7, .long y11_7), (9, .int y11_9)], [.int ((x3 + 1)), .long ((x1 + r15)), .ref 0])) rfl ?_
            obtain ⟨r17, g17, h⟩ := b1_some h
            refine rcV 198 0 [.long ((x1 + r15)), .int ((x3 + 1))] rfl rfl rfl (hSh.k 0 rfl _) (Nat.le_of_ble_eq_true rfl) rfl (e_Mo_valueOf N (by omega) hSh g17) ?_
            show RN xs L al (Ev xs L al d) 199 72 [(10, .long ((x1 + r15))), (0, .ref 0), (1, .long x1), (3, .int x3), (5, .int x5), (6, .int r1), (7, .long y11_7), (9, .int y11_9)] [.long r17] (m, S) (some (.long r0)) (m, S)
            refine rsn 5 (t := (78, [(10, .long ((x1 + r15))), (0, .ref 0), (1, .long x1), (3, .int x3), (5, .int x5), (6, .int r1), (7, .long y11_7), (9, .int y11_9)], [.int ((x3 + 1)), .long y11_7, .ref 0, .long r17])) rfl ?_
            obtain ⟨r18, g18, h⟩ := b1_some h
            refine rcV 198 0 [.long y11_7, .int ((x3 + 1))] rfl rfl rfl (hSh.k 0 rfl _) (Nat.le_of_ble_eq_true rfl) rfl (e_Mo_valueOf N (by omega) hSh g18) ?_
            show RN xs L al (Ev xs L al d) 199 81 [(10, .long ((x1 + r15))), (0, .ref 0), (1, .long x1), (3, .int x3), (5, .int x5), (6, .int r1), (7, .long y11_7), (9, .int y11_9)] [.long r18, .long r17] (m, S) (some (.long r0)) (m, S)
            refine rsn 1 (t := (82, [(10, .long ((x1 + r15))), (0, .ref 0), (1, .long x1), (3, .int x3), (5, .int x5), (6, .int r1), (7, .long y11_7), (9, .int y11_9)], [.int ((lg_cmp r17 r18))])) rfl ?_
            by_cases c19 : r17 ≤ r18
            · rw [if_pos c19] at h
              refine rjt (a := (89, [(10, .long ((x1 + r15))), (0, .ref 0), (1, .long x1), (3, .int x3), (5, .int x5), (6, .int r1), (7, .long y11_7), (9, .int y11_9)], [])) (b := (85, [(10, .long ((x1 + r15))), (0, .ref 0), (1, .long x1), (3, .int x3), (5, .int x5), (6, .int r1), (7, .long y11_7), (9, .int y11_9)], [])) rfl rfl (lgc_le.mpr c19) ?_
              refine rsn 2 (t := (23, [(9, .int ((y11_9 + 1))), (10, .long ((x1 + r15))), (0, .ref 0), (1, .long x1), (3, .int x3), (5, .int x5), (6, .int r1), (7, .long y11_7)], [])) rfl ?_
              exact rsub [(0, .ref 0), (1, .long x1), (3, .int x3), (5, .int x5), (6, .int r1), (7, .long y11_7), (9, .int ((y11_9 + 1)))] ⟨rfl, ⟨rfl, ⟨rfl, ⟨rfl, ⟨rfl, ⟨rfl, ⟨rfl, trivial⟩⟩⟩⟩⟩⟩⟩ ⟨rfl, ⟨rfl, ⟨rfl, ⟨rfl, ⟨rfl, ⟨rfl, ⟨rfl, trivial⟩⟩⟩⟩⟩⟩⟩ (ih23 y11_7 ((y11_9 + 1)) h)
            · rw [if_neg c19] at h
              refine rjf (a := (89, [(10, .long ((x1 + r15))), (0, .ref 0), (1, .long x1), (3, .int x3), (5, .int x5), (6, .int r1), (7, .long y11_7), (9, .int y11_9)], [])) (b := (85, [(10, .long ((x1 + r15))), (0, .ref 0), (1, .long x1), (3, .int x3), (5, .int x5), (6, .int r1), (7, .long y11_7), (9, .int y11_9)], [])) rfl rfl (fun q => c19 (lgc_le.mp q)) ?_
              refine rsn 4 (t := (23, [(9, .int ((y11_9 + 1))), (7, .long ((x1 + r15))), (10, .long ((x1 + r15))), (0, .ref 0), (1, .long x1), (3, .int x3), (5, .int x5), (6, .int r1)], [])) rfl ?_
              exact rsub [(0, .ref 0), (1, .long x1), (3, .int x3), (5, .int x5), (6, .int r1), (7, .long ((x1 + r15))), (9, .int ((y11_9 + 1)))] ⟨rfl, ⟨rfl, ⟨rfl, ⟨rfl, ⟨rfl, ⟨rfl, ⟨rfl, trivial⟩⟩⟩⟩⟩⟩⟩ ⟨rfl, ⟨rfl, ⟨rfl, ⟨rfl, ⟨rfl, ⟨rfl, ⟨rfl, trivial⟩⟩⟩⟩⟩⟩⟩ (ih23 ((x1 + r15)) ((y11_9 + 1)) h)
  exact rsub [(0, .ref 0), (1, .long x1), (3, .int x3), (5, .int x5), (6, .int r1), (7, .long ((-1))), (9, .int 0)] ⟨rfl, ⟨rfl, ⟨rfl, ⟨rfl, ⟨rfl, ⟨rfl, ⟨rfl, trivial⟩⟩⟩⟩⟩⟩⟩ ⟨rfl, ⟨rfl, ⟨rfl, ⟨rfl, ⟨rfl, ⟨rfl, ⟨rfl, trivial⟩⟩⟩⟩⟩⟩⟩ (lp23 N ((-1)) 0 h)
def f_Mo_after (N : Nat) (x1 : Int64) (x3 : Int32) (x4 : Int32) (x5 : Int32) (m : Mm) : Option (Int64) := b1 (f_Mo_altOf N ((((mI m 0 24)) + x3)) x4 1 m) fun r1 => (if r1 = 0 then b1 (f_Mo_given N x1 x3 x4 x5 m) fun r3 => b1 (f_Mo_valueOf N r3 ((x3 + 1)) m) fun r4 => some r4 else (if r1 = 1 then b1 (f_Mo_altOf N ((((mI m 0 24)) + x3)) x4 2 m) fun r7 => b1 (f_Mo_valueOf N ((x1 ||| ((lsl 1 ((36 + r7)))))) ((x3 + 1)) m) fun r8 => some r8 else b1 (f_Mo_valueOf N x1 ((x3 + 1)) m) fun r6 => some r6))
set_option maxRecDepth 20000 in
set_option maxHeartbeats 4000000 in
theorem e_Mo_after {xs : Nat → Int32} {L : Nat} {al : Bool} (N : Nat) {d : Nat} (hd : 5 ≤ d) {S : St} (hSh : ShR S) {x1 : Int64} {x3 : Int32} {x4 : Int32} {x5 : Int32} {m : Mm} {r0 : Int64} (h : f_Mo_after N x1 x3 x4 x5 m = some r0) : Ev xs L al d 197 [.ref 0, .long x1, .int x3, .int x4, .int x5] (m, S) (some (.long r0)) (m, S) := by
  obtain ⟨d, rfl⟩ : ∃ e, d = e + 1 := ⟨d - 1, by omega⟩
  refine ev_of (by decide) (Nat.le_of_ble_eq_true rfl) ?_
  rw [f_Mo_after] at h
  show RN xs L al (Ev xs L al d) 197 0 [(0, .ref 0), (1, .long x1), (3, .int x3), (4, .int x4), (5, .int x5)] [] (m, S) (some (.long r0)) (m, S)
  refine rsn 2 (t := (2, [(0, .ref 0), (1, .long x1), (3, .int x3), (4, .int x4), (5, .int x5)], [.ref 0, .ref 0])) rfl ?_
  refine pgI rfl rfl rfl (hSh.k 0 rfl _) ?_
  show RN xs L al (Ev xs L al d) 197 5 [(0, .ref 0), (1, .long x1), (3, .int x3), (4, .int x4), (5, .int x5)] [.int ((mI m 0 24)), .ref 0] (m, S) (some (.long r0)) (m, S)
  refine rsn 4 (t := (10, [(0, .ref 0), (1, .long x1), (3, .int x3), (4, .int x4), (5, .int x5)], [.int 1, .int x4, .int ((((mI m 0 24)) + x3)), .ref 0])) rfl ?_
  obtain ⟨r1, g1, h⟩ := b1_some h
  refine rcV 177 0 [.int ((((mI m 0 24)) + x3)), .int x4, .int 1] rfl rfl rfl (hSh.k 0 rfl _) (Nat.le_of_ble_eq_true rfl) rfl (e_Mo_altOf N (by omega) hSh g1) ?_
  show RN xs L al (Ev xs L al d) 197 13 [(0, .ref 0), (1, .long x1), (3, .int x3), (4, .int x4), (5, .int x5)] [.int r1] (m, S) (some (.long r0)) (m, S)
  refine rsn 2 (t := (17, [(6, .int r1), (0, .ref 0), (1, .long x1), (3, .int x3), (4, .int x4), (5, .int x5)], [.int r1])) rfl ?_
  by_cases c2 : r1 = 0
  · rw [if_pos c2] at h
    refine rjt (a := (58, [(6, .int r1), (0, .ref 0), (1, .long x1), (3, .int x3), (4, .int x4), (5, .int x5)], [])) (b := (20, [(6, .int r1), (0, .ref 0), (1, .long x1), (3, .int x3), (4, .int x4), (5, .int x5)], [])) rfl rfl c2 ?_
    refine rsn 6 (t := (66, [(6, .int r1), (0, .ref 0), (1, .long x1), (3, .int x3), (4, .int x4), (5, .int x5)], [.int x5, .int x4, .int x3, .long x1, .ref 0, .ref 0])) rfl ?_
    obtain ⟨r3, g3, h⟩ := b1_some h
    refine rcV 199 0 [.long x1, .int x3, .int x4, .int x5] rfl rfl rfl (hSh.k 0 rfl _) (Nat.le_of_ble_eq_true rfl) rfl (e_Mo_given N (by omega) hSh g3) ?_
    show RN xs L al (Ev xs L al d) 197 69 [(6, .int r1), (0, .ref 0), (1, .long x1), (3, .int x3), (4, .int x4), (5, .int x5)] [.long r3, .ref 0] (m, S) (some (.long r0)) (m, S)
    refine rsn 3 (t := (72, [(6, .int r1), (0, .ref 0), (1, .long x1), (3, .int x3), (4, .int x4), (5, .int x5)], [.int ((x3 + 1)), .long r3, .ref 0])) rfl ?_
    obtain ⟨r4, g4, h⟩ := b1_some h
    refine rcV 198 0 [.long r3, .int ((x3 + 1))] rfl rfl rfl (hSh.k 0 rfl _) (Nat.le_of_ble_eq_true rfl) rfl (e_Mo_valueOf N (by omega) hSh g4) ?_
    show RN xs L al (Ev xs L al d) 197 75 [(6, .int r1), (0, .ref 0), (1, .long x1), (3, .int x3), (4, .int x4), (5, .int x5)] [.long r4] (m, S) (some (.long r0)) (m, S)
    cases h
    exact rret rfl ⟨rfl, rfl, _, rfl, rfl, rfl⟩
  · rw [if_neg c2] at h
    refine rjf (a := (58, [(6, .int r1), (0, .ref 0), (1, .long x1), (3, .int x3), (4, .int x4), (5, .int x5)], [])) (b := (20, [(6, .int r1), (0, .ref 0), (1, .long x1), (3, .int x3), (4, .int x4), (5, .int x5)], [])) rfl rfl c2 ?_
    refine rsn 3 (t := (24, [(6, .int r1), (0, .ref 0), (1, .long x1), (3, .int x3), (4, .int x4), (5, .int x5)], [.int 1, .int r1, .ref 0])) rfl ?_
    by_cases c5 : r1 = 1
    · rw [if_pos c5] at h
      refine rjf (a := (50, [(6, .int r1), (0, .ref 0), (1, .long x1), (3, .int x3), (4, .int x4), (5, .int x5)], [.ref 0])) (b := (27, [(6, .int r1), (0, .ref 0), (1, .long x1), (3, .int x3), (4, .int x4), (5, .int x5)], [.ref 0])) rfl rfl (fun q => q c5) ?_
      refine rsn 5 (t := (33, [(6, .int r1), (0, .ref 0), (1, .long x1), (3, .int x3), (4, .int x4), (5, .int x5)], [.ref 0, .ref 0, .int 36, .long 1, .long x1, .ref 0])) rfl ?_
      refine pgI rfl rfl rfl (hSh.k 0 rfl _) ?_
      show RN xs L al (Ev xs L al d) 197 36 [(6, .int r1), (0, .ref 0), (1, .long x1), (3, .int x3), (4, .int x4), (5, .int x5)] [.int ((mI m 0 24)), .ref 0, .int 36, .long 1, .long x1, .ref 0] (m, S) (some (.long r0)) (m, S)
      refine rsn 4 (t := (41, [(6, .int r1), (0, .ref 0), (1, .long x1), (3, .int x3), (4, .int x4), (5, .int x5)], [.int 2, .int x4, .int ((((mI m 0 24)) + x3)), .ref 0, .int 36, .long 1, .long x1, .ref 0])) rfl ?_
      obtain ⟨r7, g7, h⟩ := b1_some h
      refine rcV 177 0 [.int ((((mI m 0 24)) + x3)), .int x4, .int 2] rfl rfl rfl (hSh.k 0 rfl _) (Nat.le_of_ble_eq_true rfl) rfl (e_Mo_altOf N (by omega) hSh g7) ?_
      show RN xs L al (Ev xs L al d) 197 44 [(6, .int r1), (0, .ref 0), (1, .long x1), (3, .int x3), (4, .int x4), (5, .int x5)] [.int r7, .int 36, .long 1, .long x1, .ref 0] (m, S) (some (.long r0)) (m, S)
      refine rsn 1 (t := (45, [(6, .int r1), (0, .ref 0), (1, .long x1), (3, .int x3), (4, .int x4), (5, .int x5)], [.int ((36 + r7)), .long 1, .long x1, .ref 0])) rfl ?_
      refine rsn 1 (t := (46, [(6, .int r1), (0, .ref 0), (1, .long x1), (3, .int x3), (4, .int x4), (5, .int x5)], [.long ((lsl 1 ((36 + r7)))), .long x1, .ref 0])) rfl ?_
      refine rsn 5 (t := (54, [(6, .int r1), (0, .ref 0), (1, .long x1), (3, .int x3), (4, .int x4), (5, .int x5)], [.int ((x3 + 1)), .long ((x1 ||| ((lsl 1 ((36 + r7)))))), .ref 0])) rfl ?_
      obtain ⟨r8, g8, h⟩ := b1_some h
      refine rcV 198 0 [.long ((x1 ||| ((lsl 1 ((36 + r7)))))), .int ((x3 + 1))] rfl rfl rfl (hSh.k 0 rfl _) (Nat.le_of_ble_eq_true rfl) rfl (e_Mo_valueOf N (by omega) hSh g8) ?_
      show RN xs L al (Ev xs L al d) 197 57 [(6, .int r1), (0, .ref 0), (1, .long x1), (3, .int x3), (4, .int x4), (5, .int x5)] [.long r8] (m, S) (some (.long r0)) (m, S)
      cases h
      exact rret rfl ⟨rfl, rfl, _, rfl, rfl, rfl⟩
    · rw [if_neg c5] at h
      refine rjt (a := (50, [(6, .int r1), (0, .ref 0), (1, .long x1), (3, .int x3), (4, .int x4), (5, .int x5)], [.ref 0])) (b := (27, [(6, .int r1), (0, .ref 0), (1, .long x1), (3, .int x3), (4, .int x4), (5, .int x5)], [.ref 0])) rfl rfl c5 ?_
      refine rsn 4 (t := (54, [(6, .int r1), (0, .ref 0), (1, .long x1), (3, .int x3), (4, .int x4), (5, .int x5)], [.int ((x3 + 1)), .long x1, .ref 0])) rfl ?_
      obtain ⟨r6, g6, h⟩ := b1_some h
      refine rcV 198 0 [.long x1, .int ((x3 + 1))] rfl rfl rfl (hSh.k 0 rfl _) (Nat.le_of_ble_eq_true rfl) rfl (e_Mo_valueOf N (by omega) hSh g6) ?_
      show RN xs L al (Ev xs L al d) 197 57 [(6, .int r1), (0, .ref 0), (1, .long x1), (3, .int x3), (4, .int x4), (5, .int x5)] [.long r6] (m, S) (some (.long r0)) (m, S)
      cases h
      exact rret rfl ⟨rfl, rfl, _, rfl, rfl, rfl⟩
def f_Mo_solved_L16 (N : Nat) (x1 : Int32) (x2 : Int32) (x3 : Int32) (x4 : Int32) (k16 : Int32 → Mm → Option (Int64 × Mm)) : Nat → Int32 → Mm → Option (Int64 × Mm)
  | 0, _, _ => none
  | n16 + 1, x5, m => ck (ix ((((mI m 0 39)) + 1)) 9) ((if ((mX m 19 (((((mI m 0 39)) + 1)).toNatClampNeg))) ≤ x5 then k16 x5 m else ck (ix x5 160000) (b2 (f_Mo_ends N ((mYy m 17 x5.toNatClampNeg)) x1 x4 m) fun r6 m6 => ck (ix x5 160000) (f_Mo_solved_L16 N x1 x2 x3 x4 k16 n16 ((x5 + 1)) ((vY m6 18 x5.toNatClampNeg r6.toInt64))))))
def f_Mo_solved_L102 (N : Nat) (x2 : Int32) (x3 : Int32) (x5 : Int32) (x6 : Int32) (m : Mm) (k102 : Int64 → Int32 → Option (Int64 × Mm)) : Nat → Int64 → Int32 → Option (Int64 × Mm)
  | 0, _, _ => none
  | n102 + 1, x7, x9 => ck (ix ((((mI m 0 24)) + x5)) 6) ((if ((mX m 8 (((((mI m 0 24)) + x5)).toNatClampNeg))) ≤ x9 then k102 x7 x9 else ck (ix x6 160000) (b1 (f_Mo_after N ((mYy m 17 x6.toNatClampNeg)) x5 x9 x3 m) fun r16 => (if x2 = 0 then (if x9 = 0 then f_Mo_solved_L102 N x2 x3 x5 x6 m k102 n102 r16 ((x9 + 1)) else (if x7 ≤ r16 then f_Mo_solved_L102 N x2 x3 x5 x6 m k102 n102 x7 ((x9 + 1)) else f_Mo_solved_L102 N x2 x3 x5 x6 m k102 n102 r16 ((x9 + 1)))) else b1 (f_Mo_altOf N ((((mI m 0 24)) + x5)) x9 0 m) fun r20 => f_Mo_solved_L102 N x2 x3 x5 x6 m k102 n102 ((x7 + ((r16 * r20.toInt64)))) ((x9 + 1))))))
def f_Mo_solved_L82 (N : Nat) (x2 : Int32) (x3 : Int32) (x5 : Int32) (k82 : Int32 → Mm → Option (Int64 × Mm)) : Nat → Int32 → Mm → Option (Int64 × Mm)
  | 0, _, _ => none
  | n82 + 1, x6, m => ck (ix ((x5 + 1)) 9) ((if ((mX m 19 (((x5 + 1)).toNatClampNeg))) ≤ x6 then k82 x6 m else f_Mo_solved_L102 N x2 x3 x5 x6 m (fun (z21_7 : Int64) (z21_9 : Int32) => ck (ix x6 160000) (f_Mo_solved_L82 N x2 x3 x5 k82 n82 ((x6 + 1)) ((vY m 18 x6.toNatClampNeg z21_7)))) N 0 0))
def f_Mo_solved_L68 (N : Nat) (x2 : Int32) (x3 : Int32) (k68 : Int32 → Mm → Option (Int64 × Mm)) : Nat → Int32 → Mm → Option (Int64 × Mm)
  | 0, _, _ => none
  | n68 + 1, x5, m => (if x5 < 0 then k68 x5 m else ck (ix x5 9) (f_Mo_solved_L82 N x2 x3 x5 (fun (z32_6 : Int32) (m32 : Mm) => f_Mo_solved_L68 N x2 x3 k68 n68 ((x5 + (-1))) m32) N ((mX m 19 x5.toNatClampNeg)) m))
def f_Mo_solved_L227 (N : Nat) (m : Mm) (k227 : Int64 → Int32 → Option (Int64 × Mm)) : Nat → Int64 → Int32 → Option (Int64 × Mm)
  | 0, _, _ => none
  | n227 + 1, x5, x7 => ck (ix (1 : Int32) 9) ((if ((mX m 19 ((1 : Int32).toNatClampNeg))) ≤ x7 then k227 x5 x7 else ck (ix x7 160000) ((if ((mYy m 18 x7.toNatClampNeg)) ≤ x5 then f_Mo_solved_L227 N m k227 n227 x5 ((x7 + 1)) else ck (ix x7 160000) (f_Mo_solved_L227 N m k227 n227 ((mYy m 18 x7.toNatClampNeg)) ((x7 + 1)))))))
def f_Mo_solved (N : Nat) (x1 : Int32) (x2 : Int32) (x3 : Int32) (x4 : Int32) (m : Mm) : Option (Int64 × Mm) := b3 (f_Mo_laysAll N x3 m) fun m1 => ck (ix ((mI m1 0 39)) 9) (f_Mo_solved_L16 N x1 x2 x3 x4 (fun (z8_5 : Int32) (m8 : Mm) => f_Mo_solved_L68 N x2 x3 (fun (z55_5 : Int32) (m55 : Mm) => ck (ix (0 : Int32) 160000) (f_Mo_solved_L227 N m55 (fun (z62_5 : Int64) (z62_7 : Int32) => some (z62_5, m55)) N ((mYy m55 18 ((0 : Int32).toNatClampNeg))) 1)) N ((((mI m8 0 39)) - 1)) m8) N ((mX m1 19 (((mI m1 0 39)).toNatClampNeg))) m1)
set_option maxRecDepth 20000 in
set_option maxHeartbeats 4000000 in
theorem e_Mo_solved {xs : Nat → Int32} {L : Nat} {al : Bool} (N : Nat) {d : Nat} (hd : 8 ≤ d) {S : St} (hSh : ShR S) {x1 : Int32} {x2 : Int32} {x3 : Int32} {x4 : Int32} {m : Mm} {r0 : Int64} {mf : Mm} (h : f_Mo_solved N x1 x2 x3 x4 m = some (r0, mf)) : Ev xs L al d 193 [.ref 0, .int x1, .int x2, .int x3, .int x4] (m, S) (some (.long r0)) (mf, S) := by
  obtain ⟨d, rfl⟩ : ∃ e, d = e + 1 := ⟨d - 1, by omega⟩
  refine ev_of (by decide) (Nat.le_of_ble_eq_true rfl) ?_
  rw [f_Mo_solved] at h
  show RN xs L al (Ev xs L al d) 193 0 [(0, .ref 0), (1, .int x1), (2, .int x2), (3, .int x3), (4, .int x4)] [] (m, S) (some (.long r0)) (mf, S)
  refine rsn 2 (t := (2, [(0, .ref 0), (1, .int x1), (2, .int x2), (3, .int x3), (4, .int x4)], [.int x3, .ref 0])) rfl ?_
  obtain ⟨m1, g1, h⟩ := b3_some h
  refine rcV 194 0 [.int x3] rfl rfl rfl (hSh.k 0 rfl _) (Nat.le_of_ble_eq_true rfl) rfl (e_Mo_laysAll N (by omega) hSh g1) ?_
  show RN xs L al (Ev xs L al d) 193 5 [(0, .ref 0), (1, .int x1), (2, .int x2), (3, .int x3), (4, .int x4)] [] (m1, S) (some (.long r0)) (mf, S)
  refine rsn 1 (t := (6, [(0, .ref 0), (1, .int x1), (2, .int x2), (3, .int x3), (4, .int x4)], [.ref 0])) rfl ?_
  refine rgR rfl rfl rfl (hSh.k 0 rfl _) (hSh.r 18 rfl _) ?_
  refine rsn 1 (t := (10, [(0, .ref 0), (1, .int x1), (2, .int x2), (3, .int x3), (4, .int x4)], [.ref 0, .ref 19])) rfl ?_
  refine pgI rfl rfl rfl (hSh.k 0 rfl _) ?_
  show RN xs L al (Ev xs L al d) 193 13 [(0, .ref 0), (1, .int x1), (2, .int x2), (3, .int x3), (4, .int x4)] [.int ((mI m1 0 39)), .ref 19] (m1, S) (some (.long r0)) (mf, S)
  obtain ⟨c2, h⟩ := ck_some h
  refine pxI rfl (hSh.k 19 rfl _) (hSh.l 18 rfl _) c2 ?_
  show RN xs L al (Ev xs L al d) 193 14 [(0, .ref 0), (1, .int x1), (2, .int x2), (3, .int x3), (4, .int x4)] [.int ((mX m1 19 (((mI m1 0 39)).toNatClampNeg)))] (m1, S) (some (.long r0)) (mf, S)
  refine rsn 1 (t := (16, [(5, .int ((mX m1 19 (((mI m1 0 39)).toNatClampNeg)))), (0, .ref 0), (1, .int x1), (2, .int x2), (3, .int x3), (4, .int x4)], [])) rfl ?_
  have ex16 : ∀ (z8_5 : Int32) (m8 : Mm), (f_Mo_solved_L68 N x2 x3 (fun (z55_5 : Int32) (m55 : Mm) => ck (ix (0 : Int32) 160000) (f_Mo_solved_L227 N m55 (fun (z62_5 : Int64) (z62_7 : Int32) => some (z62_5, m55)) N ((mYy m55 18 ((0 : Int32).toNatClampNeg))) 1)) N ((((mI m8 0 39)) - 1)) m8) = some (r0, mf) → RN xs L al (Ev xs L al d) 193 60 [(0, .ref 0), (2, .int x2), (3, .int x3)] [] (m8, S) (some (.long r0)) (mf, S) := by
    intro z8_5 m8 h
    try dsimp only at h
    refine rsn 1 (t := (61, [(0, .ref 0), (2, .int x2), (3, .int x3)], [.ref 0])) rfl ?_
    refine pgI rfl rfl rfl (hSh.k 0 rfl _) ?_
    show RN xs L al (Ev xs L al d) 193 64 [(0, .ref 0), (2, .int x2), (3, .int x3)] [.int ((mI m8 0 39))] (m8, S) (some (.long r0)) (mf, S)
    refine rsn 3 (t := (68, [(5, .int ((((mI m8 0 39)) - 1))), (0, .ref 0), (2, .int x2), (3, .int x3)], [])) rfl ?_
    have ex68 : ∀ (z55_5 : Int32) (m55 : Mm), (ck (ix (0 : Int32) 160000) (f_Mo_solved_L227 N m55 (fun (z62_5 : Int64) (z62_7 : Int32) => some (z62_5, m55)) N ((mYy m55 18 ((0 : Int32).toNatClampNeg))) 1)) = some (r0, mf) → RN xs L al (Ev xs L al d) 193 216 [(0, .ref 0)] [] (m55, S) (some (.long r0)) (mf, S) := by
      intro z55_5 m55 h
      try dsimp only at h
      refine rsn 1 (t := (217, [(0, .ref 0)], [.ref 0])) rfl ?_
      refine rgR rfl rfl rfl (hSh.k 0 rfl _) (hSh.r 17 rfl _) ?_
      refine rsn 1 (t := (221, [(0, .ref 0)], [.int 0, .ref 18])) rfl ?_
      obtain ⟨c56, h⟩ := ck_some h
      refine pxJ rfl (hSh.k 18 rfl _) (hSh.l 17 rfl _) c56 ?_
      show RN xs L al (Ev xs L al d) 193 222 [(0, .ref 0)] [.long ((mYy m55 18 ((0 : Int32).toNatClampNeg)))] (m55, S) (some (.long r0)) (mf, S)
      refine rsn 3 (t := (227, [(7, .int 1), (5, .long ((mYy m55 18 ((0 : Int32).toNatClampNeg)))), (0, .ref 0)], [])) rfl ?_
      have ex227 : ∀ (z62_5 : Int64) (z62_7 : Int32), (some (z62_5, m55)) = some (r0, mf) → RN xs L al (Ev xs L al d) 193 271 [(5, .long z62_5)] [] (m55, S) (some (.long r0)) (mf, S) := by
        intro z62_5 z62_7 h
        try dsimp only at h
        refine rsn 1 (t := (273, [(5, .long z62_5)], [.long z62_5])) rfl ?_
        cases h
        exact rret rfl ⟨rfl, rfl, _, rfl, rfl, rfl⟩
      have lp227 : ∀ (n : Nat) (y63_5 : Int64) (y63_7 : Int32), (f_Mo_solved_L227 N m55 (fun (z62_5 : Int64) (z62_7 : Int32) => some (z62_5, m55)) n y63_5 y63_7) = some (r0, mf) → RN xs L al (Ev xs L al d) 193 227 [(0, .ref 0), (5, .long y63_5), (7, .int y63_7)] [] (m55, S) (some (.long r0)) (mf, S) := by
        intro n
        induction n with
        | zero => intro y63_5 y63_7 h; exact absurd h (by simp [f_Mo_solved_L227])
        | succ n227 ih227 =>
          intro y63_5 y63_7 h
          try dsimp only at h
          rw [f_Mo_solved_L227] at h
          try dsimp only at h
          refine rsn 2 (t := (230, [(0, .ref 0), (5, .long y63_5), (7, .int y63_7)], [.ref 0, .int y63_7])) rfl ?_
          refine rgR rfl rfl rfl (hSh.k 0 rfl _) (hSh.r 18 rfl _) ?_
          refine rsn 1 (t := (234, [(0, .ref 0), (5, .long y63_5), (7, .int y63_7)], [.int 1, .ref 19, .int y63_7])) rfl ?_
          obtain ⟨c64, h⟩ := ck_some h
          refine pxI rfl (hSh.k 19 rfl _) (hSh.l 18 rfl _) c64 ?_
          show RN xs L al (Ev xs L al d) 193 235 [(0, .ref 0), (5, .long y63_5), (7, .int y63_7)] [.int ((mX m55 19 ((1 : Int32).toNatClampNeg))), .int y63_7] (m55, S) (some (.long r0)) (mf, S)
          by_cases c65 : ((mX m55 19 ((1 : Int32).toNatClampNeg))) ≤ y63_7
          · rw [if_pos c65] at h
            refine rjt (a := (271, [(0, .ref 0), (5, .long y63_5), (7, .int y63_7)], [])) (b := (238, [(0, .ref 0), (5, .long y63_5), (7, .int y63_7)], [])) rfl rfl c65 ?_
            exact rsub [(5, .long y63_5)] ⟨rfl, trivial⟩ ⟨rfl, trivial⟩ (ex227 y63_5 y63_7 h)
          · rw [if_neg c65] at h
            refine rjf (a := (271, [(0, .ref 0), (5, .long y63_5), (7, .int y63_7)], [])) (b := (238, [(0, .ref 0), (5, .long y63_5), (7, .int y63_7)], [])) rfl rfl c65 ?_
            refine rsn 1 (t := (239, [(0, .ref 0), (5, .long y63_5), (7, .int y63_7)], [.ref 0])) rfl ?_
            refine rgR rfl rfl rfl (hSh.k 0 rfl _) (hSh.r 17 rfl _) ?_
            refine rsn 1 (t := (244, [(0, .ref 0), (5, .long y63_5), (7, .int y63_7)], [.int y63_7, .ref 18])) rfl ?_
            obtain ⟨c66, h⟩ := ck_some h
            refine pxJ rfl (hSh.k 18 rfl _) (hSh.l 17 rfl _) c66 ?_
            show RN xs L al (Ev xs L al d) 193 245 [(0, .ref 0), (5, .long y63_5), (7, .int y63_7)] [.long ((mYy m55 18 y63_7.toNatClampNeg))] (m55, S) (some (.long r0)) (mf, S)
            refine rsn 2 (t := (248, [(0, .ref 0), (5, .long y63_5), (7, .int y63_7)], [.int ((lg_cmp ((mYy m55 18 y63_7.toNatClampNeg)) y63_5))])) rfl ?_
            by_cases c67 : ((mYy m55 18 y63_7.toNatClampNeg)) ≤ y63_5
            · rw [if_pos c67] at h
              refine rjt (a := (261, [(0, .ref 0), (5, .long y63_5), (7, .int y63_7)], [])) (b := (251, [(0, .ref 0), (5, .long y63_5), (7, .int y63_7)], [])) rfl rfl (lgc_le.mpr c67) ?_
              refine rsn 4 (t := (227, [(7, .int ((y63_7 + 1))), (5, .long y63_5), (0, .ref 0)], [])) rfl ?_
              exact rsub [(0, .ref 0), (5, .long y63_5), (7, .int ((y63_7 + 1)))] ⟨rfl, ⟨rfl, ⟨rfl, trivial⟩⟩⟩ ⟨rfl, ⟨rfl, ⟨rfl, trivial⟩⟩⟩ (ih227 y63_5 ((y63_7 + 1)) h)
            · rw [if_neg c67] at h
              refine rjf (a := (261, [(0, .ref 0), (5, .long y63_5), (7, .int y63_7)], [])) (b := (251, [(0, .ref 0), (5, .long y63_5), (7, .int y63_7)], [])) rfl rfl (fun q => c67 (lgc_le.mp q)) ?_
              refine rsn 1 (t := (252, [(0, .ref 0), (5, .long y63_5), (7, .int y63_7)], [.ref 0])) rfl ?_
              refine rgR rfl rfl rfl (hSh.k 0 rfl _) (hSh.r 17 rfl _) ?_
              refine rsn 1 (t := (257, [(0, .ref 0), (5, .long y63_5), (7, .int y63_7)], [.int y63_7, .ref 18])) rfl ?_
              obtain ⟨c68, h⟩ := ck_some h
              refine pxJ rfl (hSh.k 18 rfl _) (hSh.l 17 rfl _) c68 ?_
              show RN xs L al (Ev xs L al d) 193 258 [(0, .ref 0), (5, .long y63_5), (7, .int y63_7)] [.long ((mYy m55 18 y63_7.toNatClampNeg))] (m55, S) (some (.long r0)) (mf, S)
              refine rsn 4 (t := (227, [(7, .int ((y63_7 + 1))), (5, .long ((mYy m55 18 y63_7.toNatClampNeg))), (0, .ref 0)], [])) rfl ?_
              exact rsub [(0, .ref 0), (5, .long ((mYy m55 18 y63_7.toNatClampNeg))), (7, .int ((y63_7 + 1)))] ⟨rfl, ⟨rfl, ⟨rfl, trivial⟩⟩⟩ ⟨rfl, ⟨rfl, ⟨rfl, trivial⟩⟩⟩ (ih227 ((mYy m55 18 y63_7.toNatClampNeg)) ((y63_7 + 1)) h)
      exact rsub [(0, .ref 0), (5, .long ((mYy m55 18 ((0 : Int32).toNatClampNeg)))), (7, .int 1)] ⟨rfl, ⟨rfl, ⟨rfl, trivial⟩⟩⟩ ⟨rfl, ⟨rfl, ⟨rfl, trivial⟩⟩⟩ (lp227 N ((mYy m55 18 ((0 : Int32).toNatClampNeg))) 1 h)
    have lp68 : ∀ (n : Nat) (y69_5 : Int32) (m69 : Mm), (f_Mo_solved_L68 N x2 x3 (fun (z55_5 : Int32) (m55 : Mm) => ck (ix (0 : Int32) 160000) (f_Mo_solved_L227 N m55 (fun (z62_5 : Int64) (z62_7 : Int32) => some (z62_5, m55)) N ((mYy m55 18 ((0 : Int32).toNatClampNeg))) 1)) n y69_5 m69) = some (r0, mf) → RN xs L al (Ev xs L al d) 193 68 [(0, .ref 0), (2, .int x2), (3, .int x3), (5, .int y69_5)] [] (m69, S) (some (.long r0)) (mf, S) := by
      intro n
      induction n with
      | zero => intro y69_5 m69 h; exact absurd h (by simp [f_Mo_solved_L68])
      | succ n68 ih68 =>
        intro y69_5 m69 h
        try dsimp only at h
        rw [f_Mo_solved_L68] at h
        try dsimp only at h
        refine rsn 1 (t := (70, [(0, .ref 0), (2, .int x2), (3, .int x3), (5, .int y69_5)], [.int y69_5])) rfl ?_
        by_cases c70 : y69_5 < 0
        · rw [if_pos c70] at h
          refine rjt (a := (216, [(0, .ref 0), (2, .int x2), (3, .int x3), (5, .int y69_5)], [])) (b := (73, [(0, .ref 0), (2, .int x2), (3, .int x3), (5, .int y69_5)], [])) rfl rfl c70 ?_
          exact rsub [(0, .ref 0)] ⟨rfl, trivial⟩ ⟨rfl, trivial⟩ (ex68 y69_5 m69 h)
        · rw [if_neg c70] at h
          refine rjf (a := (216, [(0, .ref 0), (2, .int x2), (3, .int x3), (5, .int y69_5)], [])) (b := (73, [(0, .ref 0), (2, .int x2), (3, .int x3), (5, .int y69_5)], [])) rfl rfl c70 ?_
          refine rsn 1 (t := (74, [(0, .ref 0), (2, .int x2), (3, .int x3), (5, .int y69_5)], [.ref 0])) rfl ?_
          refine rgR rfl rfl rfl (hSh.k 0 rfl _) (hSh.r 18 rfl _) ?_
          refine rsn 1 (t := (79, [(0, .ref 0), (2, .int x2), (3, .int x3), (5, .int y69_5)], [.int y69_5, .ref 19])) rfl ?_
          obtain ⟨c71, h⟩ := ck_some h
          refine pxI rfl (hSh.k 19 rfl _) (hSh.l 18 rfl _) c71 ?_
          show RN xs L al (Ev xs L al d) 193 80 [(0, .ref 0), (2, .int x2), (3, .int x3), (5, .int y69_5)] [.int ((mX m69 19 y69_5.toNatClampNeg))] (m69, S) (some (.long r0)) (mf, S)
          refine rsn 1 (t := (82, [(6, .int ((mX m69 19 y69_5.toNatClampNeg))), (0, .ref 0), (2, .int x2), (3, .int x3), (5, .int y69_5)], [])) rfl ?_
          have ex82 : ∀ (z93_6 : Int32) (m93 : Mm), (f_Mo_solved_L68 N x2 x3 (fun (z55_5 : Int32) (m55 : Mm) => ck (ix (0 : Int32) 160000) (f_Mo_solved_L227 N m55 (fun (z62_5 : Int64) (z62_7 : Int32) => some (z62_5, m55)) N ((mYy m55 18 ((0 : Int32).toNatClampNeg))) 1)) n68 ((y69_5 + (-1))) m93) = some (r0, mf) → RN xs L al (Ev xs L al d) 193 210 [(0, .ref 0), (2, .int x2), (3, .int x3), (5, .int y69_5)] [] (m93, S) (some (.long r0)) (mf, S) := by
            intro z93_6 m93 h
            try dsimp only at h
            refine rsn 2 (t := (68, [(5, .int ((y69_5 + (-1)))), (0, .ref 0), (2, .int x2), (3, .int x3)], [])) rfl ?_
            exact rsub [(0, .ref 0), (2, .int x2), (3, .int x3), (5, .int ((y69_5 + (-1))))] ⟨rfl, ⟨rfl, ⟨rfl, ⟨rfl, trivial⟩⟩⟩⟩ ⟨rfl, ⟨rfl, ⟨rfl, ⟨rfl, trivial⟩⟩⟩⟩ (ih68 ((y69_5 + (-1))) m93 h)
          have lp82 : ∀ (n : Nat) (y94_6 : Int32) (m94 : Mm), (f_Mo_solved_L82 N x2 x3 y69_5 (fun (z93_6 : Int32) (m93 : Mm) => f_Mo_solved_L68 N x2 x3 (fun (z55_5 : Int32) (m55 : Mm) => ck (ix (0 : Int32) 160000) (f_Mo_solved_L227 N m55 (fun (z62_5 : Int64) (z62_7 : Int32) => some (z62_5, m55)) N ((mYy m55 18 ((0 : Int32).toNatClampNeg))) 1)) n68 ((y69_5 + (-1))) m93) n y94_6 m94) = some (r0, mf) → RN xs L al (Ev xs L al d) 193 82 [(0, .ref 0), (2, .int x2), (3, .int x3), (5, .int y69_5), (6, .int y94_6)] [] (m94, S) (some (.long r0)) (mf, S) := by
            intro n
            induction n with
            | zero => intro y94_6 m94 h; exact absurd h (by simp [f_Mo_solved_L82])
            | succ n82 ih82 =>
              intro y94_6 m94 h
              try dsimp only at h
              rw [f_Mo_solved_L82] at h
              try dsimp only at h
              refine rsn 2 (t := (85, [(0, .ref 0), (2, .int x2), (3, .int x3), (5, .int y69_5), (6, .int y94_6)], [.ref 0, .int y94_6])) rfl ?_
              refine rgR rfl rfl rfl (hSh.k 0 rfl _) (hSh.r 18 rfl _) ?_
              refine rsn 3 (t := (92, [(0, .ref 0), (2, .int x2), (3, .int x3), (5, .int y69_5), (6, .int y94_6)], [.int ((y69_5 + 1)), .ref 19, .int y94_6])) rfl ?_
              obtain ⟨c95, h⟩ := ck_some h
              refine pxI rfl (hSh.k 19 rfl _) (hSh.l 18 rfl _) c95 ?_
              show RN xs L al (Ev xs L al d) 193 93 [(0, .ref 0), (2, .int x2), (3, .int x3), (5, .int y69_5), (6, .int y94_6)] [.int ((mX m94 19 (((y69_5 + 1)).toNatClampNeg))), .int y94_6] (m94, S) (some (.long r0)) (mf, S)
              by_cases c96 : ((mX m94 19 (((y69_5 + 1)).toNatClampNeg))) ≤ y94_6
              · rw [if_pos c96] at h
                refine rjt (a := (210, [(0, .ref 0), (2, .int x2), (3, .int x3), (5, .int y69_5), (6, .int y94_6)], [])) (b := (96, [(0, .ref 0), (2, .int x2), (3, .int x3), (5, .int y69_5), (6, .int y94_6)], [])) rfl rfl c96 ?_
                exact rsub [(0, .ref 0), (2, .int x2), (3, .int x3), (5, .int y69_5)] ⟨rfl, ⟨rfl, ⟨rfl, ⟨rfl, trivial⟩⟩⟩⟩ ⟨rfl, ⟨rfl, ⟨rfl, ⟨rfl, trivial⟩⟩⟩⟩ (ex82 y94_6 m94 h)
              · rw [if_neg c96] at h
                refine rjf (a := (210, [(0, .ref 0), (2, .int x2), (3, .int x3), (5, .int y69_5), (6, .int y94_6)], [])) (b := (96, [(0, .ref 0), (2, .int x2), (3, .int x3), (5, .int y69_5), (6, .int y94_6)], [])) rfl rfl c96 ?_
                refine rsn 4 (t := (102, [(9, .int 0), (7, .long 0), (0, .ref 0), (2, .int x2), (3, .int x3), (5, .int y69_5), (6, .int y94_6)], [])) rfl ?_
                have ex102 : ∀ (z105_7 : Int64) (z105_9 : Int32), (ck (ix y94_6 160000) (f_Mo_solved_L82 N x2 x3 y69_5 (fun (z93_6 : Int32) (m93 : Mm) => f_Mo_solved_L68 N x2 x3 (fun (z55_5 : Int32) (m55 : Mm) => ck (ix (0 : Int32) 160000) (f_Mo_solved_L227 N m55 (fun (z62_5 : Int64) (z62_7 : Int32) => some (z62_5, m55)) N ((mYy m55 18 ((0 : Int32).toNatClampNeg))) 1)) n68 ((y69_5 + (-1))) m93) n82 ((y94_6 + 1)) ((vY m94 18 y94_6.toNatClampNeg z105_7)))) = some (r0, mf) → RN xs L al (Ev xs L al d) 193 195 [(0, .ref 0), (2, .int x2), (3, .int x3), (5, .int y69_5), (6, .int y94_6), (7, .long z105_7)] [] (m94, S) (some (.long r0)) (mf, S) := by
                  intro z105_7 z105_9 h
                  try dsimp only at h
                  refine rsn 1 (t := (196, [(0, .ref 0), (2, .int x2), (3, .int x3), (5, .int y69_5), (6, .int y94_6), (7, .long z105_7)], [.ref 0])) rfl ?_
                  refine rgR rfl rfl rfl (hSh.k 0 rfl _) (hSh.r 17 rfl _) ?_
                  refine rsn 2 (t := (203, [(0, .ref 0), (2, .int x2), (3, .int x3), (5, .int y69_5), (6, .int y94_6), (7, .long z105_7)], [.long z105_7, .int y94_6, .ref 18])) rfl ?_
                  obtain ⟨c106, h⟩ := ck_some h
                  refine psJ rfl (hSh.k 18 rfl _) (hSh.l 17 rfl _) c106 ?_
                  refine rsn 2 (t := (82, [(6, .int ((y94_6 + 1))), (0, .ref 0), (2, .int x2), (3, .int x3), (5, .int y69_5), (7, .long z105_7)], [])) rfl ?_
                  exact rsub [(0, .ref 0), (2, .int x2), (3, .int x3), (5, .int y69_5), (6, .int ((y94_6 + 1)))] ⟨rfl, ⟨rfl, ⟨rfl, ⟨rfl, ⟨rfl, trivial⟩⟩⟩⟩⟩ ⟨rfl, ⟨rfl, ⟨rfl, ⟨rfl, ⟨rfl, trivial⟩⟩⟩⟩⟩ (ih82 ((y94_6 + 1)) ((vY m94 18 y94_6.toNatClampNeg z105_7)) h)
                have lp102 : ∀ (n : Nat) (y107_7 : Int64) (y107_9 : Int32), (f_Mo_solved_L102 N x2 x3 y69_5 y94_6 m94 (fun (z105_7 : Int64) (z105_9 : Int32) => ck (ix y94_6 160000) (f_Mo_solved_L82 N x2 x3 y69_5 (fun (z93_6 : Int32) (m93 : Mm) => f_Mo_solved_L68 N x2 x3 (fun (z55_5 : Int32) (m55 : Mm) => ck (ix (0 : Int32) 160000) (f_Mo_solved_L227 N m55 (fun (z62_5 : Int64) (z62_7 : Int32) => some (z62_5, m55)) N ((mYy m55 18 ((0 : Int32).toNatClampNeg))) 1)) n68 ((y69_5 + (-1))) m93) n82 ((y94_6 + 1)) ((vY m94 18 y94_6.toNatClampNeg z105_7)))) n y107_7 y107_9) = some (r0, mf) → RN xs L al (Ev xs L al d) 193 102 [(0, .ref 0), (2, .int x2), (3, .int x3), (5, .int y69_5), (6, .int y94_6), (7, .long y107_7), (9, .int y107_9)] [] (m94, S) (some (.long r0)) (mf, S) := by
                  intro n
                  induction n with
                  | zero => intro y107_7 y107_9 h; exact absurd h (by simp [f_Mo_solved_L102])
                  | succ n102 ih102 =>
                    intro y107_7 y107_9 h
                    try dsimp only at h
                    rw [f_Mo_solved_L102] at h
                    try dsimp only at h
                    refine rsn 2 (t := (105, [(0, .ref 0), (2, .int x2), (3, .int x3), (5, .int y69_5), (6, .int y94_6), (7, .long y107_7), (9, .int y107_9)], [.ref 0, .int y107_9])) rfl ?_
                    refine rgR rfl rfl rfl (hSh.k 0 rfl _) (hSh.r 7 rfl _) ?_
                    refine rsn 1 (t := (109, [(0, .ref 0), (2, .int x2), (3, .int x3), (5, .int y69_5), (6, .int y94_6), (7, .long y107_7), (9, .int y107_9)], [.ref 0, .ref 8, .int y107_9])) rfl ?_
                    refine pgI rfl rfl rfl (hSh.k 0 rfl _) ?_
                    show RN xs L al (Ev xs L al d) 193 112 [(0, .ref 0), (2, .int x2), (3, .int x3), (5, .int y69_5), (6, .int y94_6), (7, .long y107_7), (9, .int y107_9)] [.int ((mI m94 0 24)), .ref 8, .int y107_9] (m94, S) (some (.long r0)) (mf, S)
                    refine rsn 2 (t := (115, [(0, .ref 0), (2, .int x2), (3, .int x3), (5, .int y69_5), (6, .int y94_6), (7, .long y107_7), (9, .int y107_9)], [.int ((((mI m94 0 24)) + y69_5)), .ref 8, .int y107_9])) rfl ?_
                    obtain ⟨c108, h⟩ := ck_some h
                    refine pxI rfl (hSh.k 8 rfl _) (hSh.l 7 rfl _) c108 ?_
                    show RN xs L al (Ev xs L al d) 193 116 [(0, .ref 0), (2, .int x2), (3, .int x3), (5, .int y69_5), (6, .int y94_6), (7, .long y107_7), (9, .int y107_9)] [.int ((mX m94 8 (((((mI m94 0 24)) + y69_5)).toNatClampNeg))), .int y107_9] (m94, S) (some (.long r0)) (mf, S)
                    by_cases c109 : ((mX m94 8 (((((mI m94 0 24)) + y69_5)).toNatClampNeg))) ≤ y107_9
                    · rw [if_pos c109] at h
                      refine rjt (a := (195, [(0, .ref 0), (2, .int x2), (3, .int x3), (5, .int y69_5), (6, .int y94_6), (7, .long y107_7), (9, .int y107_9)], [])) (b := (119, [(0, .ref 0), (2, .int x2), (3, .int x3), (5, .int y69_5), (6, .int y94_6), (7, .long y107_7), (9, .int y107_9)], [])) rfl rfl c109 ?_
                      exact rsub [(0, .ref 0), (2, .int x2), (3, .int x3), (5, .int y69_5), (6, .int y94_6), (7, .long y107_7)] ⟨rfl, ⟨rfl, ⟨rfl, ⟨rfl, ⟨rfl, ⟨rfl, trivial⟩⟩⟩⟩⟩⟩ ⟨rfl, ⟨rfl, ⟨rfl, ⟨rfl, ⟨rfl, ⟨rfl, trivial⟩⟩⟩⟩⟩⟩ (ex102 y107_7 y107_9 h)
                    · rw [if_neg c109] at h
                      refine rjf (a := (195, [(0, .ref 0), (2, .int x2), (3, .int x3), (5, .int y69_5), (6, .int y94_6), (7, .long y107_7), (9, .int y107_9)], [])) (b := (119, [(0, .ref 0), (2, .int x2), (3, .int x3), (5, .int y69_5), (6, .int y94_6), (7, .long y107_7), (9, .int y107_9)], [])) rfl rfl c109 ?_
                      refine rsn 2 (t := (121, [(0, .ref 0), (2, .int x2), (3, .int x3), (5, .int y69_5), (6, .int y94_6), (7, .long y107_7), (9, .int y107_9)], [.ref 0, .ref 0])) rfl ?_
                      refine rgR rfl rfl rfl (hSh.k 0 rfl _) (hSh.r 16 rfl _) ?_
                      refine rsn 1 (t := (126, [(0, .ref 0), (2, .int x2), (3, .int x3), (5, .int y69_5), (6, .int y94_6), (7, .long y107_7), (9, .int y107_9)], [.int y94_6, .ref 17, .ref 0])) rfl ?_
                      obtain ⟨c110, h⟩ := ck_some h
                      refine pxJ rfl (hSh.k 17 rfl _) (hSh.l 16 rfl _) c110 ?_
                      show RN xs L al (Ev xs L al d) 193 127 [(0, .ref 0), (2, .int x2), (3, .int x3), (5, .int y69_5), (6, .int y94_6), (7, .long y107_7), (9, .int y107_9)] [.long ((mYy m94 17 y94_6.toNatClampNeg)), .ref 0] (m94, S) (some (.long r0)) (mf, S)
                      refine rsn 3 (t := (132, [(0, .ref 0), (2, .int x2), (3, .int x3), (5, .int y69_5), (6, .int y94_6), (7, .long y107_7), (9, .int y107_9)], [.int x3, .int y107_9, .int y69_5, .long ((mYy m94 17 y94_6.toNatClampNeg)), .ref 0])) rfl ?_
                      obtain ⟨r111, g111, h⟩ := b1_some h
                      refine rcV 197 0 [.long ((mYy m94 17 y94_6.toNatClampNeg)), .int y69_5, .int y107_9, .int x3] rfl rfl rfl (hSh.k 0 rfl _) (Nat.le_of_ble_eq_true rfl) rfl (e_Mo_after N (by omega) hSh g111) ?_
                      show RN xs L al (Ev xs L al d) 193 135 [(0, .ref 0), (2, .int x2), (3, .int x3), (5, .int y69_5), (6, .int y94_6), (7, .long y107_7), (9, .int y107_9)] [.long r111] (m94, S) (some (.long r0)) (mf, S)
                      refine rsn 2 (t := (138, [(10, .long r111), (0, .ref 0), (2, .int x2), (3, .int x3), (5, .int y69_5), (6, .int y94_6), (7, .long y107_7), (9, .int y107_9)], [.int x2])) rfl ?_
                      by_cases c112 : x2 = 0
                      · rw [if_pos c112] at h
                        refine rjt (a := (167, [(10, .long r111), (0, .ref 0), (2, .int x2), (3, .int x3), (5, .int y69_5), (6, .int y94_6), (7, .long y107_7), (9, .int y107_9)], [])) (b := (141, [(10, .long r111), (0, .ref 0), (2, .int x2), (3, .int x3), (5, .int y69_5), (6, .int y94_6), (7, .long y107_7), (9, .int y107_9)], [])) rfl rfl c112 ?_
                        refine rsn 1 (t := (169, [(10, .long r111), (0, .ref 0), (2, .int x2), (3, .int x3), (5, .int y69_5), (6, .int y94_6), (7, .long y107_7), (9, .int y107_9)], [.int y107_9])) rfl ?_
                        by_cases c113 : y107_9 = 0
                        · rw [if_pos c113] at h
                          refine rjt (a := (180, [(10, .long r111), (0, .ref 0), (2, .int x2), (3, .int x3), (5, .int y69_5), (6, .int y94_6), (7, .long y107_7), (9, .int y107_9)], [])) (b := (172, [(10, .long r111), (0, .ref 0), (2, .int x2), (3, .int x3), (5, .int y69_5), (6, .int y94_6), (7, .long y107_7), (9, .int y107_9)], [])) rfl rfl c113 ?_
                          refine rsn 5 (t := (102, [(9, .int ((y107_9 + 1))), (7, .long r111), (10, .long r111), (0, .ref 0), (2, .int x2), (3, .int x3), (5, .int y69_5), (6, .int y94_6)], [])) rfl ?_
                          exact rsub [(0, .ref 0), (2, .int x2), (3, .int x3), (5, .int y69_5), (6, .int y94_6), (7, .long r111), (9, .int ((y107_9 + 1)))] ⟨rfl, ⟨rfl, ⟨rfl, ⟨rfl, ⟨rfl, ⟨rfl, ⟨rfl, trivial⟩⟩⟩⟩⟩⟩⟩ ⟨rfl, ⟨rfl, ⟨rfl, ⟨rfl, ⟨rfl, ⟨rfl, ⟨rfl, trivial⟩⟩⟩⟩⟩⟩⟩ (ih102 r111 ((y107_9 + 1)) h)
                        · rw [if_neg c113] at h
                          refine rjf (a := (180, [(10, .long r111), (0, .ref 0), (2, .int x2), (3, .int x3), (5, .int y69_5), (6, .int y94_6), (7, .long y107_7), (9, .int y107_9)], [])) (b := (172, [(10, .long r111), (0, .ref 0), (2, .int x2), (3, .int x3), (5, .int y69_5), (6, .int y94_6), (7, .long y107_7), (9, .int y107_9)], [])) rfl rfl c113 ?_
                          refine rsn 3 (t := (177, [(10, .long r111), (0, .ref 0), (2, .int x2), (3, .int x3), (5, .int y69_5), (6, .int y94_6), (7, .long y107_7), (9, .int y107_9)], [.int ((lg_cmp r111 y107_7))])) rfl ?_
                          by_cases c114 : y107_7 ≤ r111
                          · rw [if_pos c114] at h
                            refine rjt (a := (185, [(10, .long r111), (0, .ref 0), (2, .int x2), (3, .int x3), (5, .int y69_5), (6, .int y94_6), (7, .long y107_7), (9, .int y107_9)], [])) (b := (180, [(10, .long r111), (0, .ref 0), (2, .int x2), (3, .int x3), (5, .int y69_5), (6, .int y94_6), (7, .long y107_7), (9, .int y107_9)], [])) rfl rfl (lgc_ge.mpr c114) ?_
                            refine rsn 4 (t := (102, [(9, .int ((y107_9 + 1))), (7, .long y107_7), (10, .long r111), (0, .ref 0), (2, .int x2), (3, .int x3), (5, .int y69_5), (6, .int y94_6)], [])) rfl ?_
                            exact rsub [(0, .ref 0), (2, .int x2), (3, .int x3), (5, .int y69_5), (6, .int y94_6), (7, .long y107_7), (9, .int ((y107_9 + 1)))] ⟨rfl, ⟨rfl, ⟨rfl, ⟨rfl, ⟨rfl, ⟨rfl, ⟨rfl, trivial⟩⟩⟩⟩⟩⟩⟩ ⟨rfl, ⟨rfl, ⟨rfl, ⟨rfl, ⟨rfl, ⟨rfl, ⟨rfl, trivial⟩⟩⟩⟩⟩⟩⟩ (ih102 y107_7 ((y107_9 + 1)) h)
                          · rw [if_neg c114] at h
                            refine rjf (a := (185, [(10, .long r111), (0, .ref 0), (2, .int x2), (3, .int x3), (5, .int y69_5), (6, .int y94_6), (7, .long y107_7), (9, .int y107_9)], [])) (b := (180, [(10, .long r111), (0, .ref 0), (2, .int x2), (3, .int x3), (5, .int y69_5), (6, .int y94_6), (7, .long y107_7), (9, .int y107_9)], [])) rfl rfl (fun q => c114 (lgc_ge.mp q)) ?_
                            refine rsn 5 (t := (102, [(9, .int ((y107_9 + 1))), (7, .long r111), (10, .long r111), (0, .ref 0), (2, .int x2), (3, .int x3), (5, .int y69_5), (6, .int y94_6)], [])) rfl ?_
                            exact rsub [(0, .ref 0), (2, .int x2), (3, .int x3), (5, .int y69_5), (6, .int y94_6), (7, .long r111), (9, .int ((y107_9 + 1)))] ⟨rfl, ⟨rfl, ⟨rfl, ⟨rfl, ⟨rfl, ⟨rfl, ⟨rfl, trivial⟩⟩⟩⟩⟩⟩⟩ ⟨rfl, ⟨rfl, ⟨rfl, ⟨rfl, ⟨rfl, ⟨rfl, ⟨rfl, trivial⟩⟩⟩⟩⟩⟩⟩ (ih102 r111 ((y107_9 + 1)) h)
                      · rw [if_neg c112] at h
                        refine rjf (a := (167, [(10, .long r111), (0, .ref 0), (2, .int x2), (3, .int x3), (5, .int y69_5), (6, .int y94_6), (7, .long y107_7), (9, .int y107_9)], [])) (b := (141, [(10, .long r111), (0, .ref 0), (2, .int x2), (3, .int x3), (5, .int y69_5), (6, .int y94_6), (7, .long y107_7), (9, .int y107_9)], [])) rfl rfl c112 ?_
                        refine rsn 4 (t := (147, [(10, .long r111), (0, .ref 0), (2, .int x2), (3, .int x3), (5, .int y69_5), (6, .int y94_6), (7, .long y107_7), (9, .int y107_9)], [.ref 0, .ref 0, .long r111, .long y107_7])) rfl ?_
                        refine pgI rfl rfl rfl (hSh.k 0 rfl _) ?_
                        show RN xs L al (Ev xs L al d) 193 150 [(10, .long r111), (0, .ref 0), (2, .int x2), (3, .int x3), (5, .int y69_5), (6, .int y94_6), (7, .long y107_7), (9, .int y107_9)] [.int ((mI m94 0 24)), .ref 0, .long r111, .long y107_7] (m94, S) (some (.long r0)) (mf, S)
                        refine rsn 4 (t := (156, [(10, .long r111), (0, .ref 0), (2, .int x2), (3, .int x3), (5, .int y69_5), (6, .int y94_6), (7, .long y107_7), (9, .int y107_9)], [.int 0, .int y107_9, .int ((((mI m94 0 24)) + y69_5)), .ref 0, .long r111, .long y107_7])) rfl ?_
                        obtain ⟨r115, g115, h⟩ := b1_some h
                        refine rcV 177 0 [.int ((((mI m94 0 24)) + y69_5)), .int y107_9, .int 0] rfl rfl rfl (hSh.k 0 rfl _) (Nat.le_of_ble_eq_true rfl) rfl (e_Mo_altOf N (by omega) hSh g115) ?_
                        show RN xs L al (Ev xs L al d) 193 159 [(10, .long r111), (0, .ref 0), (2, .int x2), (3, .int x3), (5, .int y69_5), (6, .int y94_6), (7, .long y107_7), (9, .int y107_9)] [.int r115, .long r111, .long y107_7] (m94, S) (some (.long r0)) (mf, S)
                        refine rsn 7 (t := (102, [(9, .int ((y107_9 + 1))), (7, .long ((y107_7 + ((r111 * r115.toInt64))))), (10, .long r111), (0, .ref 0), (2, .int x2), (3, .int x3), (5, .int y69_5), (6, .int y94_6)], [])) rfl ?_
                        exact rsub [(0, .ref 0), (2, .int x2), (3, .int x3), (5, .int y69_5), (6, .int y94_6), (7, .long ((y107_7 + ((r111 * r115.toInt64))))), (9, .int ((y107_9 + 1)))] ⟨rfl, ⟨rfl, ⟨rfl, ⟨rfl, ⟨rfl, ⟨rfl, ⟨rfl, trivial⟩⟩⟩⟩⟩⟩⟩ ⟨rfl, ⟨rfl, ⟨rfl, ⟨rfl, ⟨rfl, ⟨rfl, ⟨rfl, trivial⟩⟩⟩⟩⟩⟩⟩ (ih102 ((y107_7 + ((r111 * r115.toInt64)))) ((y107_9 + 1)) h)
                exact rsub [(0, .ref 0), (2, .int x2), (3, .int x3), (5, .int y69_5), (6, .int y94_6), (7, .long 0), (9, .int 0)] ⟨rfl, ⟨rfl, ⟨rfl, ⟨rfl, ⟨rfl, ⟨rfl, ⟨rfl, trivial⟩⟩⟩⟩⟩⟩⟩ ⟨rfl, ⟨rfl, ⟨rfl, ⟨rfl, ⟨rfl, ⟨rfl, ⟨rfl, trivial⟩⟩⟩⟩⟩⟩⟩ (lp102 N 0 0 h)
          exact rsub [(0, .ref 0), (2, .int x2), (3, .int x3), (5, .int y69_5), (6, .int ((mX m69 19 y69_5.toNatClampNeg)))] ⟨rfl, ⟨rfl, ⟨rfl, ⟨rfl, ⟨rfl, trivial⟩⟩⟩⟩⟩ ⟨rfl, ⟨rfl, ⟨rfl, ⟨rfl, ⟨rfl, trivial⟩⟩⟩⟩⟩ (lp82 N ((mX m69 19 y69_5.toNatClampNeg)) m69 h)
    exact rsub [(0, .ref 0), (2, .int x2), (3, .int x3), (5, .int ((((mI m8 0 39)) - 1)))] ⟨rfl, ⟨rfl, ⟨rfl, ⟨rfl, trivial⟩⟩⟩⟩ ⟨rfl, ⟨rfl, ⟨rfl, ⟨rfl, trivial⟩⟩⟩⟩ (lp68 N ((((mI m8 0 39)) - 1)) m8 h)
  have lp16 : ∀ (n : Nat) (y116_5 : Int32) (m116 : Mm), (f_Mo_solved_L16 N x1 x2 x3 x4 (fun (z8_5 : Int32) (m8 : Mm) => f_Mo_solved_L68 N x2 x3 (fun (z55_5 : Int32) (m55 : Mm) => ck (ix (0 : Int32) 160000) (f_Mo_solved_L227 N m55 (fun (z62_5 : Int64) (z62_7 : Int32) => some (z62_5, m55)) N ((mYy m55 18 ((0 : Int32).toNatClampNeg))) 1)) N ((((mI m8 0 39)) - 1)) m8) n y116_5 m116) = some (r0, mf) → RN xs L al (Ev xs L al d) 193 16 [(0, .ref 0), (1, .int x1), (2, .int x2), (3, .int x3), (4, .int x4), (5, .int y116_5)] [] (m116, S) (some (.long r0)) (mf, S) := by
    intro n
    induction n with
    | zero => intro y116_5 m116 h; exact absurd h (by simp [f_Mo_solved_L16])
    | succ n16 ih16 =>
      intro y116_5 m116 h
      try dsimp only at h
      rw [f_Mo_solved_L16] at h
      try dsimp only at h
      refine rsn 2 (t := (19, [(0, .ref 0), (1, .int x1), (2, .int x2), (3, .int x3), (4, .int x4), (5, .int y116_5)], [.ref 0, .int y116_5])) rfl ?_
      refine rgR rfl rfl rfl (hSh.k 0 rfl _) (hSh.r 18 rfl _) ?_
      refine rsn 1 (t := (23, [(0, .ref 0), (1, .int x1), (2, .int x2), (3, .int x3), (4, .int x4), (5, .int y116_5)], [.ref 0, .ref 19, .int y116_5])) rfl ?_
      refine pgI rfl rfl rfl (hSh.k 0 rfl _) ?_
      show RN xs L al (Ev xs L al d) 193 26 [(0, .ref 0), (1, .int x1), (2, .int x2), (3, .int x3), (4, .int x4), (5, .int y116_5)] [.int ((mI m116 0 39)), .ref 19, .int y116_5] (m116, S) (some (.long r0)) (mf, S)
      refine rsn 2 (t := (28, [(0, .ref 0), (1, .int x1), (2, .int x2), (3, .int x3), (4, .int x4), (5, .int y116_5)], [.int ((((mI m116 0 39)) + 1)), .ref 19, .int y116_5])) rfl ?_
      obtain ⟨c117, h⟩ := ck_some h
      refine pxI rfl (hSh.k 19 rfl _) (hSh.l 18 rfl _) c117 ?_
      show RN xs L al (Ev xs L al d) 193 29 [(0, .ref 0), (1, .int x1), (2, .int x2), (3, .int x3), (4, .int x4), (5, .int y116_5)] [.int ((mX m116 19 (((((mI m116 0 39)) + 1)).toNatClampNeg))), .int y116_5] (m116, S) (some (.long r0)) (mf, S)
      by_cases c118 : ((mX m116 19 (((((mI m116 0 39)) + 1)).toNatClampNeg))) ≤ y116_5
      · rw [if_pos c118] at h
        refine rjt (a := (60, [(0, .ref 0), (1, .int x1), (2, .int x2), (3, .int x3), (4, .int x4), (5, .int y116_5)], [])) (b := (32, [(0, .ref 0), (1, .int x1), (2, .int x2), (3, .int x3), (4, .int x4), (5, .int y116_5)], [])) rfl rfl c118 ?_
        exact rsub [(0, .ref 0), (2, .int x2), (3, .int x3)] ⟨rfl, ⟨rfl, ⟨rfl, trivial⟩⟩⟩ ⟨rfl, ⟨rfl, ⟨rfl, trivial⟩⟩⟩ (ex16 y116_5 m116 h)
      · rw [if_neg c118] at h
        refine rjf (a := (60, [(0, .ref 0), (1, .int x1), (2, .int x2), (3, .int x3), (4, .int x4), (5, .int y116_5)], [])) (b := (32, [(0, .ref 0), (1, .int x1), (2, .int x2), (3, .int x3), (4, .int x4), (5, .int y116_5)], [])) rfl rfl c118 ?_
        refine rsn 1 (t := (33, [(0, .ref 0), (1, .int x1), (2, .int x2), (3, .int x3), (4, .int x4), (5, .int y116_5)], [.ref 0])) rfl ?_
        refine rgR rfl rfl rfl (hSh.k 0 rfl _) (hSh.r 17 rfl _) ?_
        refine rsn 3 (t := (40, [(0, .ref 0), (1, .int x1), (2, .int x2), (3, .int x3), (4, .int x4), (5, .int y116_5)], [.ref 0, .ref 0, .int y116_5, .ref 18])) rfl ?_
        refine rgR rfl rfl rfl (hSh.k 0 rfl _) (hSh.r 16 rfl _) ?_
        refine rsn 1 (t := (45, [(0, .ref 0), (1, .int x1), (2, .int x2), (3, .int x3), (4, .int x4), (5, .int y116_5)], [.int y116_5, .ref 17, .ref 0, .int y116_5, .ref 18])) rfl ?_
        obtain ⟨c119, h⟩ := ck_some h
        refine pxJ rfl (hSh.k 17 rfl _) (hSh.l 16 rfl _) c119 ?_
        show RN xs L al (Ev xs L al d) 193 46 [(0, .ref 0), (1, .int x1), (2, .int x2), (3, .int x3), (4, .int x4), (5, .int y116_5)] [.long ((mYy m116 17 y116_5.toNatClampNeg)), .ref 0, .int y116_5, .ref 18] (m116, S) (some (.long r0)) (mf, S)
        refine rsn 2 (t := (49, [(0, .ref 0), (1, .int x1), (2, .int x2), (3, .int x3), (4, .int x4), (5, .int y116_5)], [.int x4, .int x1, .long ((mYy m116 17 y116_5.toNatClampNeg)), .ref 0, .int y116_5, .ref 18])) rfl ?_
        obtain ⟨r120, m120, g120, h⟩ := b2_some h
        refine rcV 185 0 [.long ((mYy m116 17 y116_5.toNatClampNeg)), .int x1, .int x4] rfl rfl rfl (hSh.k 0 rfl _) (Nat.le_of_ble_eq_true rfl) rfl (e_Mo_ends N (by omega) hSh g120) ?_
        show RN xs L al (Ev xs L al d) 193 52 [(0, .ref 0), (1, .int x1), (2, .int x2), (3, .int x3), (4, .int x4), (5, .int y116_5)] [.int r120, .int y116_5, .ref 18] (m120, S) (some (.long r0)) (mf, S)
        refine rsn 1 (t := (53, [(0, .ref 0), (1, .int x1), (2, .int x2), (3, .int x3), (4, .int x4), (5, .int y116_5)], [.long r120.toInt64, .int y116_5, .ref 18])) rfl ?_
        obtain ⟨c121, h⟩ := ck_some h
        refine psJ rfl (hSh.k 18 rfl _) (hSh.l 17 rfl _) c121 ?_
        refine rsn 2 (t := (16, [(5, .int ((y116_5 + 1))), (0, .ref 0), (1, .int x1), (2, .int x2), (3, .int x3), (4, .int x4)], [])) rfl ?_
        exact rsub [(0, .ref 0), (1, .int x1), (2, .int x2), (3, .int x3), (4, .int x4), (5, .int ((y116_5 + 1)))] ⟨rfl, ⟨rfl, ⟨rfl, ⟨rfl, ⟨rfl, ⟨rfl, trivial⟩⟩⟩⟩⟩⟩ ⟨rfl, ⟨rfl, ⟨rfl, ⟨rfl, ⟨rfl, ⟨rfl, trivial⟩⟩⟩⟩⟩⟩ (ih16 ((y116_5 + 1)) ((vY m120 18 y116_5.toNatClampNeg r120.toInt64)) h)
  exact rsub [(0, .ref 0), (1, .int x1), (2, .int x2), (3, .int x3), (4, .int x4), (5, .int ((mX m1 19 (((mI m1 0 39)).toNatClampNeg))))] ⟨rfl, ⟨rfl, ⟨rfl, ⟨rfl, ⟨rfl, ⟨rfl, trivial⟩⟩⟩⟩⟩⟩ ⟨rfl, ⟨rfl, ⟨rfl, ⟨rfl, ⟨rfl, ⟨rfl, trivial⟩⟩⟩⟩⟩⟩ (lp16 N ((mX m1 19 (((mI m1 0 39)).toNatClampNeg))) m1 h)
