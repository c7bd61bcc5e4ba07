/-! The class's methods as functions (printed by wip/whole/gen_fun.py). -/
def f_Rows_canHoldGifts (N : Nat) (S : St) (x1 : Int32) (x2 : Int64) (m : Mm) : Option (Int32) := (if x1 < 0 then some 0 else b1 (f_State_dayOf N x2) fun r2 => (if ((ius x1 ((2 * ((((mI m 10 1)) - r2)))))) = 0 then some 1 else some 0))
set_option maxRecDepth 20000 in
set_option maxHeartbeats 4000000 in
theorem e_Rows_canHoldGifts {xs : Nat → Int32} {L : Nat} {al : Bool} (N : Nat) {d : Nat} (hd : 2 ≤ d) {S : St} (hSh : ShC S) {x1 : Int32} {x2 : Int64} {m : Mm} {r0 : Int32} (h : f_Rows_canHoldGifts N S x1 x2 m = some r0) : Ev xs L al d 116 [.ref 30, .int x1, .long x2] (m, S) (some (.int r0)) (m, S) := by
  obtain ⟨d, rfl⟩ : ∃ e, d = e + 1 := ⟨d - 1, by omega⟩
  refine ev_of (by decide) (Nat.le_of_ble_eq_true rfl) ?_
  rw [f_Rows_canHoldGifts] at h
  show RN xs L al (Ev xs L al d) 116 0 [(0, .ref 30), (1, .int x1), (2, .long x2)] [] (m, S) (some (.int r0)) (m, S)
  refine rsn 1 (t := (1, [(0, .ref 30), (1, .int x1), (2, .long x2)], [.int x1])) rfl ?_
  by_cases c1 : x1 < 0
  · rw [if_pos c1] at h
    refine rjt (a := (27, [(0, .ref 30), (1, .int x1), (2, .long x2)], [])) (b := (4, [(0, .ref 30), (1, .int x1), (2, .long x2)], [])) rfl rfl c1 ?_
    refine rsn 1 (t := (28, [(0, .ref 30), (1, .int x1), (2, .long x2)], [.int 0])) rfl ?_
    cases h
    exact rret rfl ⟨rfl, rfl, _, _, rfl, rfl, rfl, rfl⟩
  · rw [if_neg c1] at h
    refine rjf (a := (27, [(0, .ref 30), (1, .int x1), (2, .long x2)], [])) (b := (4, [(0, .ref 30), (1, .int x1), (2, .long x2)], [])) rfl rfl c1 ?_
    refine rsn 3 (t := (7, [(0, .ref 30), (1, .int x1), (2, .long x2)], [.ref 30, .int 2, .int x1])) rfl ?_
    refine rgR rfl rfl rfl (hSh.1.k 30 rfl _) (hSh.1.r 100 rfl _) ?_
    refine pgI rfl rfl rfl (hSh.1.k 10 rfl _) ?_
    show RN xs L al (Ev xs L al d) 116 13 [(0, .ref 30), (1, .int x1), (2, .long x2)] [.int ((mI m 10 1)), .int 2, .int x1] (m, S) (some (.int r0)) (m, S)
    refine rsn 1 (t := (14, [(0, .ref 30), (1, .int x1), (2, .long x2)], [.long x2, .int ((mI m 10 1)), .int 2, .int x1])) rfl ?_
    obtain ⟨r2, g2, h⟩ := b1_some h
    refine rcS 63 [.long x2] rfl rfl rfl (Nat.le_of_ble_eq_true rfl) rfl (e_State_dayOf N (by omega) g2) ?_
    show RN xs L al (Ev xs L al d) 116 17 [(0, .ref 30), (1, .int x1), (2, .long x2)] [.int r2, .int ((mI m 10 1)), .int 2, .int x1] (m, S) (some (.int r0)) (m, S)
    refine rsn 3 (t := (20, [(0, .ref 30), (1, .int x1), (2, .long x2)], [.int ((ius x1 ((2 * ((((mI m 10 1)) - r2))))))])) rfl ?_
    by_cases c3 : ((ius x1 ((2 * ((((mI m 10 1)) - r2)))))) = 0
    · rw [if_pos c3] at h
      refine rjf (a := (27, [(0, .ref 30), (1, .int x1), (2, .long x2)], [])) (b := (23, [(0, .ref 30), (1, .int x1), (2, .long x2)], [])) rfl rfl (fun q => q c3) ?_
      refine rsn 2 (t := (28, [(0, .ref 30), (1, .int x1), (2, .long x2)], [.int 1])) rfl ?_
      cases h
      exact rret rfl ⟨rfl, rfl, _, _, rfl, rfl, rfl, rfl⟩
    · rw [if_neg c3] at h
      refine rjt (a := (27, [(0, .ref 30), (1, .int x1), (2, .long x2)], [])) (b := (23, [(0, .ref 30), (1, .int x1), (2, .long x2)], [])) rfl rfl c3 ?_
      refine rsn 1 (t := (28, [(0, .ref 30), (1, .int x1), (2, .long x2)], [.int 0])) rfl ?_
      cases h
      exact rret rfl ⟨rfl, rfl, _, _, rfl, rfl, rfl, rfl⟩
def f_Rows_canBe_L10 (N : Nat) (S : St) (x1 : Int32) (x2 : Int64) (x4 : Int32) (m : Mm) (k10 : Int32 → Option (Int32)) : Nat → Int32 → Option (Int32)
  | 0, _ => none
  | n10 + 1, x5 => f_Rows_canBe_L10 N S x1 x2 x4 m k10 n10 x5
def f_Rows_canBe (N : Nat) (S : St) (x1 : Int32) (x2 : Int64) (m : Mm) : Option (Int32) := b1 (f_State_dayOf N x2) fun r1 => f_Rows_canBe_L10 N S x1 x2 r1 m (fun (z2_5 : Int32) => b1 (f_Rows_canHoldGifts N S x1 x2 m) fun r3 => ck (r3 = 0 ∨ r3 = 1) (some r3)) N r1
set_option maxRecDepth 20000 in
set_option maxHeartbeats 4000000 in
theorem e_Rows_canBe {xs : Nat → Int32} {L : Nat} {al : Bool} (N : Nat) {d : Nat} (hd : 3 ≤ d) {S : St} (hSh : ShC S) {x1 : Int32} {x2 : Int64} {m : Mm} {r0 : Int32} (h : f_Rows_canBe N S x1 x2 m = some r0) : Ev xs L al d 114 [.ref 30, .int x1, .long x2] (m, S) (some (.int r0)) (m, S) := by
  obtain ⟨d, rfl⟩ : ∃ e, d = e + 1 := ⟨d - 1, by omega⟩
  refine ev_of (by decide) (Nat.le_of_ble_eq_true rfl) ?_
  rw [f_Rows_canBe] at h
  show RN xs L al (Ev xs L al d) 114 0 [(0, .ref 30), (1, .int x1), (2, .long x2)] [] (m, S) (some (.int r0)) (m, S)
  refine rsn 1 (t := (1, [(0, .ref 30), (1, .int x1), (2, .long x2)], [.long x2])) rfl ?_
  obtain ⟨r1, g1, h⟩ := b1_some h
  refine rcS 63 [.long x2] rfl rfl rfl (Nat.le_of_ble_eq_true rfl) rfl (e_State_dayOf N (by omega) g1) ?_
  show RN xs L al (Ev xs L al d) 114 4 [(0, .ref 30), (1, .int x1), (2, .long x2)] [.int r1] (m, S) (some (.int r0)) (m, S)
  refine rsn 3 (t := (10, [(5, .int r1), (4, .int r1), (0, .ref 30), (1, .int x1), (2, .long x2)], [])) rfl ?_
  have ex10 : ∀ (z2_5 : Int32), (b1 (f_Rows_canHoldGifts N S x1 x2 m) fun r3 => ck (r3 = 0 ∨ r3 = 1) (some r3)) = some r0 → RN xs L al (Ev xs L al d) 114 51 [(0, .ref 30), (1, .int x1), (2, .long x2)] [] (m, S) (some (.int r0)) (m, S) := by
    intro z2_5 h
    try dsimp only at h
    refine rsn 3 (t := (54, [(0, .ref 30), (1, .int x1), (2, .long x2)], [.long x2, .int x1, .ref 30])) rfl ?_
    obtain ⟨r3, g3, h⟩ := b1_some h
    refine rcV 116 30 [.int x1, .long x2] rfl rfl rfl (hSh.1.k 30 rfl _) (Nat.le_of_ble_eq_true rfl) rfl (e_Rows_canHoldGifts N (by omega) hSh g3) ?_
    show RN xs L al (Ev xs L al d) 114 57 [(0, .ref 30), (1, .int x1), (2, .long x2)] [.int r3] (m, S) (some (.int r0)) (m, S)
    obtain ⟨c4, h⟩ := ck_some h
    cases h
    exact rret rfl ⟨rfl, rfl, _, _, rfl, rfl, rfl, nz_of c4⟩
  have lp10 : ∀ (n : Nat) (y5_5 : Int32), (f_Rows_canBe_L10 N S x1 x2 r1 m (fun (z2_5 : Int32) => b1 (f_Rows_canHoldGifts N S x1 x2 m) fun r3 => ck (r3 = 0 ∨ r3 = 1) (some r3)) n y5_5) = some r0 → RN xs L al (Ev xs L al d) 114 10 [(0, .ref 30), (1, .int x1), (2, .long x2), (4, .int r1), (5, .int y5_5)] [] (m, S) (some (.int r0)) (m, S) := by
    intro n
    induction n with
    | zero => intro y5_5 h; exact absurd h (by simp [f_Rows_canBe_L10])
    | succ n10 ih10 =>
      intro y5_5 h
      try dsimp only at h
      rw [f_Rows_canBe_L10] at h
      try dsimp only at h
      exact rsub [(0, .ref 30), (1, .int x1), (2, .long x2), (4, .int r1), (5, .int y5_5)] ⟨rfl, ⟨rfl, ⟨rfl, ⟨rfl, ⟨rfl, trivial⟩⟩⟩⟩⟩ ⟨rfl, ⟨rfl, ⟨rfl, ⟨rfl, ⟨rfl, trivial⟩⟩⟩⟩⟩ (ih10 y5_5 h)
  exact rsub [(0, .ref 30), (1, .int x1), (2, .long x2), (4, .int r1), (5, .int r1)] ⟨rfl, ⟨rfl, ⟨rfl, ⟨rfl, ⟨rfl, trivial⟩⟩⟩⟩⟩ ⟨rfl, ⟨rfl, ⟨rfl, ⟨rfl, ⟨rfl, trivial⟩⟩⟩⟩⟩ (lp10 N r1 h)
def f_Rows_traced (N : Nat) (S : St) (x1 : Int64) (x3 : Int32) (x4 : Int32) (m : Mm) : Option (Int64) := b1 (f_Will_thing N S 10 x3 x4 m) fun r1 => b1 (f_Will_passed N S 10 x1 x3 x4 m) fun r2 => (if r1 = ((-1)) then some r2 else b1 (f_Ranks_lateOf N S x1 m) fun r4 => b1 (f_State_with N r2 r1 r4) fun r5 => some r5)
set_option maxRecDepth 20000 in
set_option maxHeartbeats 4000000 in
theorem e_Rows_traced {xs : Nat → Int32} {L : Nat} {al : Bool} (N : Nat) {d : Nat} (hd : 4 ≤ d) {S : St} (hSh : ShC S) {x1 : Int64} {x3 : Int32} {x4 : Int32} {m : Mm} {r0 : Int64} (h : f_Rows_traced N S x1 x3 x4 m = some r0) : Ev xs L al d 118 [.ref 30, .long x1, .int x3, .int x4] (m, S) (some (.long r0)) (m, S) := by
  obtain ⟨d, rfl⟩ : ∃ e, d = e + 1 := ⟨d - 1, by omega⟩
  refine ev_of (by decide) (Nat.le_of_ble_eq_true rfl) ?_
  rw [f_Rows_traced] at h
  show RN xs L al (Ev xs L al d) 118 0 [(0, .ref 30), (1, .long x1), (3, .int x3), (4, .int x4)] [] (m, S) (some (.long r0)) (m, S)
  refine rsn 1 (t := (1, [(0, .ref 30), (1, .long x1), (3, .int x3), (4, .int x4)], [.ref 30])) rfl ?_
  refine rgR rfl rfl rfl (hSh.1.k 30 rfl _) (hSh.1.r 100 rfl _) ?_
  refine rsn 2 (t := (7, [(0, .ref 30), (1, .long x1), (3, .int x3), (4, .int x4)], [.int x4, .int x3, .ref 10])) rfl ?_
  obtain ⟨r1, g1, h⟩ := b1_some h
  refine rcV 64 10 [.int x3, .int x4] rfl rfl rfl (hSh.1.k 10 rfl _) (Nat.le_of_ble_eq_true rfl) rfl (e_Will_thing N (by omega) hSh (by decide) g1) ?_
  show RN xs L al (Ev xs L al d) 118 10 [(0, .ref 30), (1, .long x1), (3, .int x3), (4, .int x4)] [.int r1] (m, S) (some (.long r0)) (m, S)
  refine rsn 2 (t := (13, [(5, .int r1), (0, .ref 30), (1, .long x1), (3, .int x3), (4, .int x4)], [.ref 30])) rfl ?_
  refine rgR rfl rfl rfl (hSh.1.k 30 rfl _) (hSh.1.r 100 rfl _) ?_
  refine rsn 3 (t := (20, [(5, .int r1), (0, .ref 30), (1, .long x1), (3, .int x3), (4, .int x4)], [.int x4, .int x3, .long x1, .ref 10])) rfl ?_
  obtain ⟨r2, g2, h⟩ := b1_some h
  refine rcV 65 10 [.long x1, .int x3, .int x4] rfl rfl rfl (hSh.1.k 10 rfl _) (Nat.le_of_ble_eq_true rfl) rfl (e_Will_passed N (by omega) hSh (by decide) g2) ?_
  show RN xs L al (Ev xs L al d) 118 23 [(5, .int r1), (0, .ref 30), (1, .long x1), (3, .int x3), (4, .int x4)] [.long r2] (m, S) (some (.long r0)) (m, S)
  refine rsn 3 (t := (28, [(6, .long r2), (5, .int r1), (0, .ref 30), (1, .long x1), (3, .int x3), (4, .int x4)], [.int ((-1)), .int r1])) rfl ?_
  by_cases c3 : r1 = ((-1))
  · rw [if_pos c3] at h
    refine rjf (a := (36, [(6, .long r2), (5, .int r1), (0, .ref 30), (1, .long x1), (3, .int x3), (4, .int x4)], [])) (b := (31, [(6, .long r2), (5, .int r1), (0, .ref 30), (1, .long x1), (3, .int x3), (4, .int x4)], [])) rfl rfl (fun q => q c3) ?_
    refine rsn 2 (t := (51, [(6, .long r2), (5, .int r1), (0, .ref 30), (1, .long x1), (3, .int x3), (4, .int x4)], [.long r2])) rfl ?_
    cases h
    exact rret rfl ⟨rfl, rfl, _, rfl, rfl, rfl⟩
  · rw [if_neg c3] at h
    refine rjt (a := (36, [(6, .long r2), (5, .int r1), (0, .ref 30), (1, .long x1), (3, .int x3), (4, .int x4)], [])) (b := (31, [(6, .long r2), (5, .int r1), (0, .ref 30), (1, .long x1), (3, .int x3), (4, .int x4)], [])) rfl rfl c3 ?_
    refine rsn 3 (t := (41, [(6, .long r2), (5, .int r1), (0, .ref 30), (1, .long x1), (3, .int x3), (4, .int x4)], [.ref 30, .int r1, .long r2])) rfl ?_
    refine rgR rfl rfl rfl (hSh.1.k 30 rfl _) (hSh.1.r 101 rfl _) ?_
    refine rsn 1 (t := (45, [(6, .long r2), (5, .int r1), (0, .ref 30), (1, .long x1), (3, .int x3), (4, .int x4)], [.long x1, .ref 18, .int r1, .long r2])) rfl ?_
    obtain ⟨r4, g4, h⟩ := b1_some h
    refine rcV 83 18 [.long x1] rfl rfl rfl (hSh.1.k 18 rfl _) (Nat.le_of_ble_eq_true rfl) rfl (e_Ranks_lateOf N (by omega) hSh g4) ?_
    show RN xs L al (Ev xs L al d) 118 48 [(6, .long r2), (5, .int r1), (0, .ref 30), (1, .long x1), (3, .int x3), (4, .int x4)] [.int r4, .int r1, .long r2] (m, S) (some (.long r0)) (m, S)
    obtain ⟨r5, g5, h⟩ := b1_some h
    refine rcS 70 [.long r2, .int r1, .int r4] rfl rfl rfl (Nat.le_of_ble_eq_true rfl) rfl (e_State_with N (by omega) g5) ?_
    show RN xs L al (Ev xs L al d) 118 51 [(6, .long r2), (5, .int r1), (0, .ref 30), (1, .long x1), (3, .int x3), (4, .int x4)] [.long r5] (m, S) (some (.long r0)) (m, S)
    cases h
    exact rret rfl ⟨rfl, rfl, _, rfl, rfl, rfl⟩
def f_Ranks_cameWith (N : Nat) (S : St) (x1 : Int32) (m : Mm) : Option (Int32) := (if x1 < 0 then some 0 else (if 8 ≤ x1 then some 0 else ck (ix x1 8) (some ((mX m 28 x1.toNatClampNeg)))))
set_option maxRecDepth 20000 in
set_option maxHeartbeats 4000000 in
theorem e_Ranks_cameWith {xs : Nat → Int32} {L : Nat} {al : Bool} (N : Nat) {d : Nat} (hd : 1 ≤ d) {S : St} (hSh : ShC S) {x1 : Int32} {m : Mm} {r0 : Int32} (h : f_Ranks_cameWith N S x1 m = some r0) : Ev xs L al d 121 [.ref 18, .int x1] (m, S) (some (.int r0)) (m, S) := by
  obtain ⟨d, rfl⟩ : ∃ e, d = e + 1 := ⟨d - 1, by omega⟩
  refine ev_of (by decide) (Nat.le_of_ble_eq_true rfl) ?_
  rw [f_Ranks_cameWith] at h
  show RN xs L al (Ev xs L al d) 121 0 [(0, .ref 18), (1, .int x1)] [] (m, S) (some (.int r0)) (m, S)
  refine rsn 1 (t := (1, [(0, .ref 18), (1, .int x1)], [.int x1])) rfl ?_
  by_cases c1 : x1 < 0
  · rw [if_pos c1] at h
    refine rjt (a := (19, [(0, .ref 18), (1, .int x1)], [])) (b := (4, [(0, .ref 18), (1, .int x1)], [])) rfl rfl c1 ?_
    refine rsn 1 (t := (20, [(0, .ref 18), (1, .int x1)], [.int 0])) rfl ?_
    cases h
    exact rret rfl ⟨rfl, rfl, _, _, rfl, rfl, rfl, rfl⟩
  · rw [if_neg c1] at h
    refine rjf (a := (19, [(0, .ref 18), (1, .int x1)], [])) (b := (4, [(0, .ref 18), (1, .int x1)], [])) rfl rfl c1 ?_
    refine rsn 2 (t := (7, [(0, .ref 18), (1, .int x1)], [.int 8, .int x1])) rfl ?_
    by_cases c2 : 8 ≤ x1
    · rw [if_pos c2] at h
      refine rjt (a := (19, [(0, .ref 18), (1, .int x1)], [])) (b := (10, [(0, .ref 18), (1, .int x1)], [])) rfl rfl c2 ?_
      refine rsn 1 (t := (20, [(0, .ref 18), (1, .int x1)], [.int 0])) rfl ?_
      cases h
      exact rret rfl ⟨rfl, rfl, _, _, rfl, rfl, rfl, rfl⟩
    · rw [if_neg c2] at h
      refine rjf (a := (19, [(0, .ref 18), (1, .int x1)], [])) (b := (10, [(0, .ref 18), (1, .int x1)], [])) rfl rfl c2 ?_
      refine rsn 1 (t := (11, [(0, .ref 18), (1, .int x1)], [.ref 18])) rfl ?_
      refine rgR rfl rfl rfl (hSh.1.k 18 rfl _) (hSh.1.r 21 rfl _) ?_
      refine rsn 1 (t := (15, [(0, .ref 18), (1, .int x1)], [.int x1, .ref 28])) rfl ?_
      obtain ⟨c3, h⟩ := ck_some h
      refine pxI rfl (hSh.1.k 28 rfl _) (hSh.1.l 22 rfl _) c3 ?_
      show RN xs L al (Ev xs L al d) 121 16 [(0, .ref 18), (1, .int x1)] [.int ((mX m 28 x1.toNatClampNeg))] (m, S) (some (.int r0)) (m, S)
      refine rsn 1 (t := (20, [(0, .ref 18), (1, .int x1)], [.int ((mX m 28 x1.toNatClampNeg))])) rfl ?_
      cases h
      exact rret rfl ⟨rfl, rfl, _, _, rfl, rfl, rfl, rfl⟩
def f_Ranks_allPlaces (N : Nat) (S : St) (m : Mm) : Option (Int32) := ck (ix ((((mI m 18 11)) + 1)) 8) (some ((((mX m 26 (((((mI m 18 11)) + 1)).toNatClampNeg))) * ((mI m 18 10)))))
set_option maxRecDepth 20000 in
set_option maxHeartbeats 4000000 in
theorem e_Ranks_allPlaces {xs : Nat → Int32} {L : Nat} {al : Bool} (N : Nat) {d : Nat} (hd : 1 ≤ d) {S : St} (hSh : ShC S) {m : Mm} {r0 : Int32} (h : f_Ranks_allPlaces N S m = some r0) : Ev xs L al d 124 [.ref 18] (m, S) (some (.int r0)) (m, S) := by
  obtain ⟨d, rfl⟩ : ∃ e, d = e + 1 := ⟨d - 1, by omega⟩
  refine ev_of (by decide) (Nat.le_of_ble_eq_true rfl) ?_
  rw [f_Ranks_allPlaces] at h
  show RN xs L al (Ev xs L al d) 124 0 [(0, .ref 18)] [] (m, S) (some (.int r0)) (m, S)
  refine rsn 1 (t := (1, [(0, .ref 18)], [.ref 18])) rfl ?_
  refine rgR rfl rfl rfl (hSh.1.k 18 rfl _) (hSh.1.r 19 rfl _) ?_
  refine rsn 1 (t := (5, [(0, .ref 18)], [.ref 18, .ref 26])) rfl ?_
  refine pgI rfl rfl rfl (hSh.1.k 18 rfl _) ?_
  show RN xs L al (Ev xs L al d) 124 8 [(0, .ref 18)] [.int ((mI m 18 11)), .ref 26] (m, S) (some (.int r0)) (m, S)
  refine rsn 2 (t := (10, [(0, .ref 18)], [.int ((((mI m 18 11)) + 1)), .ref 26])) rfl ?_
  obtain ⟨c1, h⟩ := ck_some h
  refine pxI rfl (hSh.1.k 26 rfl _) (hSh.1.l 20 rfl _) c1 ?_
  show RN xs L al (Ev xs L al d) 124 11 [(0, .ref 18)] [.int ((mX m 26 (((((mI m 18 11)) + 1)).toNatClampNeg)))] (m, S) (some (.int r0)) (m, S)
  refine rsn 1 (t := (12, [(0, .ref 18)], [.ref 18, .int ((mX m 26 (((((mI m 18 11)) + 1)).toNatClampNeg)))])) rfl ?_
  refine pgI rfl rfl rfl (hSh.1.k 18 rfl _) ?_
  show RN xs L al (Ev xs L al d) 124 15 [(0, .ref 18)] [.int ((mI m 18 10)), .int ((mX m 26 (((((mI m 18 11)) + 1)).toNatClampNeg)))] (m, S) (some (.int r0)) (m, S)
  refine rsn 1 (t := (16, [(0, .ref 18)], [.int ((((mX m 26 (((((mI m 18 11)) + 1)).toNatClampNeg))) * ((mI m 18 10))))])) rfl ?_
  cases h
  exact rret rfl ⟨rfl, rfl, _, _, rfl, rfl, rfl, rfl⟩
def f_Rows_wasWalked (N : Nat) (S : St) (x1 : Int32) (m : Mm) : Option (Int32 × Mm) := (if x1 < 0 then some (0, m) else b1 (S.1 30 2) fun t2 => (if x1 < ((Int32.ofNat ((S.2.2.1 t2)))) then b1 (S.1 30 2) fun t4 => ck (ix x1 (S.2.2.1 t4)) ((jn (fun (s6 : Int32) => b1 (S.1 30 2) fun t7 => ck (ix x1 (S.2.2.1 t7)) (ck (s6 = 0 ∨ s6 = 1) (some (s6, (vX m t7 x1.toNatClampNeg ((mI m 30 3))))))) (fun j33 => if ((mX m t4 x1.toNatClampNeg)) = ((mI m 30 3)) then j33 1 else j33 0))) else some (0, m)))
set_option maxRecDepth 20000 in
set_option maxHeartbeats 4000000 in
theorem e_Rows_wasWalked {xs : Nat → Int32} {L : Nat} {al : Bool} (N : Nat) {d : Nat} (hd : 1 ≤ d) {S : St} (hSh : ShC S) {x1 : Int32} {m : Mm} {r0 : Int32} {mf : Mm} (h : f_Rows_wasWalked N S x1 m = some (r0, mf)) : Ev xs L al d 126 [.ref 30, .int x1] (m, S) (some (.int r0)) (mf, S) := by
  obtain ⟨d, rfl⟩ : ∃ e, d = e + 1 := ⟨d - 1, by omega⟩
  refine ev_of (by decide) (Nat.le_of_ble_eq_true rfl) ?_
  rw [f_Rows_wasWalked] at h
  show RN xs L al (Ev xs L al d) 126 0 [(0, .ref 30), (1, .int x1)] [] (m, S) (some (.int r0)) (mf, S)
  refine rsn 1 (t := (1, [(0, .ref 30), (1, .int x1)], [.int x1])) rfl ?_
  by_cases c1 : x1 < 0
  · rw [if_pos c1] at h
    refine rjt (a := (13, [(0, .ref 30), (1, .int x1)], [])) (b := (4, [(0, .ref 30), (1, .int x1)], [])) rfl rfl c1 ?_
    refine rsn 1 (t := (14, [(0, .ref 30), (1, .int x1)], [.int 0])) rfl ?_
    cases h
    exact rret rfl ⟨rfl, rfl, _, _, rfl, rfl, rfl, rfl⟩
  · rw [if_neg c1] at h
    refine rjf (a := (13, [(0, .ref 30), (1, .int x1)], [])) (b := (4, [(0, .ref 30), (1, .int x1)], [])) rfl rfl c1 ?_
    refine rsn 2 (t := (6, [(0, .ref 30), (1, .int x1)], [.ref 30, .int x1])) rfl ?_
    obtain ⟨t2, g2, h⟩ := b1_some h
    refine rgR rfl rfl rfl (hSh.1.k 30 rfl _) g2 ?_
    refine rxL rfl (hSh.kQ g2 _) (by decide) rfl ?_
    show RN xs L al (Ev xs L al d) 126 10 [(0, .ref 30), (1, .int x1)] [.int ((Int32.ofNat ((S.2.2.1 t2)))), .int x1] (m, S) (some (.int r0)) (mf, S)
    by_cases c3 : x1 < ((Int32.ofNat ((S.2.2.1 t2))))
    · rw [if_pos c3] at h
      refine rjt (a := (15, [(0, .ref 30), (1, .int x1)], [])) (b := (13, [(0, .ref 30), (1, .int x1)], [])) rfl rfl c3 ?_
      refine rsn 1 (t := (16, [(0, .ref 30), (1, .int x1)], [.ref 30])) rfl ?_
      obtain ⟨t4, g4, h⟩ := b1_some h
      refine rgR rfl rfl rfl (hSh.1.k 30 rfl _) g4 ?_
      refine rsn 1 (t := (20, [(0, .ref 30), (1, .int x1)], [.int x1, .ref t4])) rfl ?_
      obtain ⟨c5, h⟩ := ck_some h
      refine pxI rfl (hSh.kQ g4 _) rfl c5 ?_
      show RN xs L al (Ev xs L al d) 126 21 [(0, .ref 30), (1, .int x1)] [.int ((mX m t4 x1.toNatClampNeg))] (m, S) (some (.int r0)) (mf, S)
      refine rsn 1 (t := (22, [(0, .ref 30), (1, .int x1)], [.ref 30, .int ((mX m t4 x1.toNatClampNeg))])) rfl ?_
      refine pgI rfl rfl rfl (hSh.1.k 30 rfl _) ?_
      show RN xs L al (Ev xs L al d) 126 25 [(0, .ref 30), (1, .int x1)] [.int ((mI m 30 3)), .int ((mX m t4 x1.toNatClampNeg))] (m, S) (some (.int r0)) (mf, S)
      have jp33 : ∀ (s6 : Int32), (b1 (S.1 30 2) fun t7 => ck (ix x1 (S.2.2.1 t7)) (ck (s6 = 0 ∨ s6 = 1) (some (s6, (vX m t7 x1.toNatClampNeg ((mI m 30 3))))))) = some (r0, mf) → RN xs L al (Ev xs L al d) 126 33 [(0, .ref 30), (1, .int x1)] [.int s6] (m, S) (some (.int r0)) (mf, S) := by
        intro s6 h
        try dsimp only at h
        refine rsn 2 (t := (35, [(2, .int s6), (0, .ref 30), (1, .int x1)], [.ref 30])) rfl ?_
        obtain ⟨t7, g7, h⟩ := b1_some h
        refine rgR rfl rfl rfl (hSh.1.k 30 rfl _) g7 ?_
        refine rsn 2 (t := (40, [(2, .int s6), (0, .ref 30), (1, .int x1)], [.ref 30, .int x1, .ref t7])) rfl ?_
        refine pgI rfl rfl rfl (hSh.1.k 30 rfl _) ?_
        show RN xs L al (Ev xs L al d) 126 43 [(2, .int s6), (0, .ref 30), (1, .int x1)] [.int ((mI m 30 3)), .int x1, .ref t7] (m, S) (some (.int r0)) (mf, S)
        obtain ⟨c8, h⟩ := ck_some h
        refine psI rfl (hSh.kQ g7 _) rfl c8 ?_
        refine rsn 1 (t := (45, [(2, .int s6), (0, .ref 30), (1, .int x1)], [.int s6])) rfl ?_
        obtain ⟨c9, h⟩ := ck_some h
        cases h
        exact rret rfl ⟨rfl, rfl, _, _, rfl, rfl, rfl, nz_of c9⟩
      rw [jn] at h
      try dsimp only at h
      by_cases c10 : ((mX m t4 x1.toNatClampNeg)) = ((mI m 30 3))
      · rw [if_pos c10] at h
        refine rjf (a := (32, [(0, .ref 30), (1, .int x1)], [])) (b := (28, [(0, .ref 30), (1, .int x1)], [])) rfl rfl (fun q => q c10) ?_
        refine rsn 2 (t := (33, [(0, .ref 30), (1, .int x1)], [.int 1])) rfl ?_
        exact rsub [(0, .ref 30), (1, .int x1)] ⟨rfl, ⟨rfl, trivial⟩⟩ ⟨rfl, ⟨rfl, trivial⟩⟩ (jp33 1 h)
      · rw [if_neg c10] at h
        refine rjt (a := (32, [(0, .ref 30), (1, .int x1)], [])) (b := (28, [(0, .ref 30), (1, .int x1)], [])) rfl rfl c10 ?_
        refine rsn 1 (t := (33, [(0, .ref 30), (1, .int x1)], [.int 0])) rfl ?_
        exact rsub [(0, .ref 30), (1, .int x1)] ⟨rfl, ⟨rfl, trivial⟩⟩ ⟨rfl, ⟨rfl, trivial⟩⟩ (jp33 0 h)
    · rw [if_neg c3] at h
      refine rjf (a := (15, [(0, .ref 30), (1, .int x1)], [])) (b := (13, [(0, .ref 30), (1, .int x1)], [])) rfl rfl c3 ?_
      refine rsn 1 (t := (14, [(0, .ref 30), (1, .int x1)], [.int 0])) rfl ?_
      cases h
      exact rret rfl ⟨rfl, rfl, _, _, rfl, rfl, rfl, rfl⟩
def f_Ways_claim (N : Nat) (S : St) (x1 : Int64) (x3 : Int32) (x4 : Int32) (m : Mm) : Option (Int32) := (if ((mI m 97 2)) = 1 then b1 (f_State_thingsOf N x1 x4) fun r1 => some ((-r1)) else (if ((mI m 97 2)) = 2 then b1 (f_Will_valueOf N S 10 x4 x1 x4 m) fun r2 => some ((-r2)) else b1 (f_Will_worth N S 10 x4 x3 m) fun r3 => some r3))
set_option maxRecDepth 20000 in
set_option maxHeartbeats 4000000 in
theorem e_Ways_claim {xs : Nat → Int32} {L : Nat} {al : Bool} (N : Nat) {d : Nat} (hd : 3 ≤ d) {S : St} (hSh : ShC S) {x1 : Int64} {x3 : Int32} {x4 : Int32} {m : Mm} {r0 : Int32} (h : f_Ways_claim N S x1 x3 x4 m = some r0) : Ev xs L al d 132 [.ref 97, .long x1, .int x3, .int x4] (m, S) (some (.int r0)) (m, S) := by
  obtain ⟨d, rfl⟩ : ∃ e, d = e + 1 := ⟨d - 1, by omega⟩
  refine ev_of (by decide) (Nat.le_of_ble_eq_true rfl) ?_
  rw [f_Ways_claim] at h
  show RN xs L al (Ev xs L al d) 132 0 [(0, .ref 97), (1, .long x1), (3, .int x3), (4, .int x4)] [] (m, S) (some (.int r0)) (m, S)
  refine rsn 1 (t := (1, [(0, .ref 97), (1, .long x1), (3, .int x3), (4, .int x4)], [.ref 97])) rfl ?_
  refine pgI rfl rfl rfl (hSh.1.k 97 rfl _) ?_
  show RN xs L al (Ev xs L al d) 132 4 [(0, .ref 97), (1, .long x1), (3, .int x3), (4, .int x4)] [.int ((mI m 97 2))] (m, S) (some (.int r0)) (m, S)
  by_cases c4 : ((mI m 97 2)) = 1
  · rw [if_pos c4] at h
    refine rs (t := (32, [(0, .ref 97), (1, .long x1), (3, .int x3), (4, .int x4)], [])) rfl (by rw [c4]; rfl) ?_
    refine rsn 2 (t := (35, [(0, .ref 97), (1, .long x1), (3, .int x3), (4, .int x4)], [.int x4, .long x1])) rfl ?_
    obtain ⟨r1, g1, h⟩ := b1_some h
    refine rcS 69 [.long x1, .int x4] rfl rfl rfl (Nat.le_of_ble_eq_true rfl) rfl (e_State_thingsOf N (by omega) g1) ?_
    show RN xs L al (Ev xs L al d) 132 38 [(0, .ref 97), (1, .long x1), (3, .int x3), (4, .int x4)] [.int r1] (m, S) (some (.int r0)) (m, S)
    refine rsn 1 (t := (39, [(0, .ref 97), (1, .long x1), (3, .int x3), (4, .int x4)], [.int ((-r1))])) rfl ?_
    cases h
    exact rret rfl ⟨rfl, rfl, _, _, rfl, rfl, rfl, rfl⟩
  rw [if_neg c4] at h
  by_cases c5 : ((mI m 97 2)) = 2
  · rw [if_pos c5] at h
    refine rs (t := (40, [(0, .ref 97), (1, .long x1), (3, .int x3), (4, .int x4)], [])) rfl (by rw [c5]; rfl) ?_
    refine rsn 1 (t := (41, [(0, .ref 97), (1, .long x1), (3, .int x3), (4, .int x4)], [.ref 97])) rfl ?_
    refine rgR rfl rfl rfl (hSh.1.k 97 rfl _) (hSh.1.r 102 rfl _) ?_
    refine rsn 3 (t := (49, [(0, .ref 97), (1, .long x1), (3, .int x3), (4, .int x4)], [.int x4, .long x1, .int x4, .ref 10])) rfl ?_
    obtain ⟨r2, g2, h⟩ := b1_some h
    refine rcV 58 10 [.int x4, .long x1, .int x4] rfl rfl rfl (hSh.1.k 10 rfl _) (Nat.le_of_ble_eq_true rfl) rfl (e_Will_valueOf N (by omega) hSh (by decide) g2) ?_
    show RN xs L al (Ev xs L al d) 132 52 [(0, .ref 97), (1, .long x1), (3, .int x3), (4, .int x4)] [.int r2] (m, S) (some (.int r0)) (m, S)
    refine rsn 1 (t := (53, [(0, .ref 97), (1, .long x1), (3, .int x3), (4, .int x4)], [.int ((-r2))])) rfl ?_
    cases h
    exact rret rfl ⟨rfl, rfl, _, _, rfl, rfl, rfl, rfl⟩
  rw [if_neg c5] at h
  refine rs (t := (54, [(0, .ref 97), (1, .long x1), (3, .int x3), (4, .int x4)], [])) rfl (lk_d (pc := 4) (ps := #[(1, 28), (2, 36)]) (dflt := 50) (by decide) (by rw [lv_osw c4 (by decide)]; rw [lv_osw c5 (by decide)]; rfl) (by decide)) ?_
  refine rsn 1 (t := (55, [(0, .ref 97), (1, .long x1), (3, .int x3), (4, .int x4)], [.ref 97])) rfl ?_
  refine rgR rfl rfl rfl (hSh.1.k 97 rfl _) (hSh.1.r 102 rfl _) ?_
  refine rsn 2 (t := (61, [(0, .ref 97), (1, .long x1), (3, .int x3), (4, .int x4)], [.int x3, .int x4, .ref 10])) rfl ?_
  obtain ⟨r3, g3, h⟩ := b1_some h
  refine rcV 56 10 [.int x4, .int x3] rfl rfl rfl (hSh.1.k 10 rfl _) (Nat.le_of_ble_eq_true rfl) rfl (e_Will_worth N (by omega) hSh (by decide) g3) ?_
  show RN xs L al (Ev xs L al d) 132 64 [(0, .ref 97), (1, .long x1), (3, .int x3), (4, .int x4)] [.int r3] (m, S) (some (.int r0)) (m, S)
  cases h
  exact rret rfl ⟨rfl, rfl, _, _, rfl, rfl, rfl, rfl⟩
def f_Ways_gift_L35 (N : Nat) (S : St) (x1 : Int64) (x3 : Int32) (m : Mm) (k35 : Int32 → Int32 → Option (Int32)) : Nat → Int32 → Int32 → Option (Int32)
  | 0, _, _ => none
  | n35 + 1, x4, x5 => f_Ways_gift_L35 N S x1 x3 m k35 n35 x4 x5
def f_Ways_gift (N : Nat) (S : St) (x1 : Int64) (x3 : Int32) (m : Mm) : Option (Int32) := (jn (fun (_ : Unit) => f_Ways_gift_L35 N S x1 x3 m (fun (z1_4 : Int32) (z1_5 : Int32) => some z1_4) N ((-1)) 0) (fun j29 => if ((mI m 97 2)) = 3 then b1 (f_Will_mayGive N S 10 x1 3 ((mI m 10 2)) m) fun r4 => (if r4 = 0 then j29 () else some 3) else j29 ()))
set_option maxRecDepth 20000 in
set_option maxHeartbeats 4000000 in
theorem e_Ways_gift {xs : Nat → Int32} {L : Nat} {al : Bool} (N : Nat) {d : Nat} (hd : 5 ≤ d) {S : St} (hSh : ShC S) {x1 : Int64} {x3 : Int32} {m : Mm} {r0 : Int32} (h : f_Ways_gift N S x1 x3 m = some r0) : Ev xs L al d 131 [.ref 97, .long x1, .int x3] (m, S) (some (.int r0)) (m, S) := by
  obtain ⟨d, rfl⟩ : ∃ e, d = e + 1 := ⟨d - 1, by omega⟩
  refine ev_of (by decide) (Nat.le_of_ble_eq_true rfl) ?_
  rw [f_Ways_gift] at h
  show RN xs L al (Ev xs L al d) 131 0 [(0, .ref 97), (1, .long x1), (3, .int x3)] [] (m, S) (some (.int r0)) (m, S)
  refine rsn 1 (t := (1, [(0, .ref 97), (1, .long x1), (3, .int x3)], [.ref 97])) rfl ?_
  refine pgI rfl rfl rfl (hSh.1.k 97 rfl _) ?_
  show RN xs L al (Ev xs L al d) 131 4 [(0, .ref 97), (1, .long x1), (3, .int x3)] [.int ((mI m 97 2))] (m, S) (some (.int r0)) (m, S)
  refine rsn 1 (t := (5, [(0, .ref 97), (1, .long x1), (3, .int x3)], [.int 3, .int ((mI m 97 2))])) rfl ?_
  have jp29 : ∀ (_ : Unit), (f_Ways_gift_L35 N S x1 x3 m (fun (z1_4 : Int32) (z1_5 : Int32) => some z1_4) N ((-1)) 0) = some r0 → RN xs L al (Ev xs L al d) 131 29 [(0, .ref 97), (1, .long x1), (3, .int x3)] [] (m, S) (some (.int r0)) (m, S) := by
    intro _ h
    try dsimp only at h
    refine rsn 4 (t := (35, [(5, .int 0), (4, .int ((-1))), (0, .ref 97), (1, .long x1), (3, .int x3)], [])) rfl ?_
    have ex35 : ∀ (z1_4 : Int32) (z1_5 : Int32), (some z1_4) = some r0 → RN xs L al (Ev xs L al d) 131 91 [(4, .int z1_4)] [] (m, S) (some (.int r0)) (m, S) := by
      intro z1_4 z1_5 h
      try dsimp only at h
      refine rsn 1 (t := (93, [(4, .int z1_4)], [.int z1_4])) rfl ?_
      cases h
      exact rret rfl ⟨rfl, rfl, _, _, rfl, rfl, rfl, rfl⟩
    have lp35 : ∀ (n : Nat) (y2_4 : Int32) (y2_5 : Int32), (f_Ways_gift_L35 N S x1 x3 m (fun (z1_4 : Int32) (z1_5 : Int32) => some z1_4) n y2_4 y2_5) = some r0 → RN xs L al (Ev xs L al d) 131 35 [(0, .ref 97), (1, .long x1), (3, .int x3), (4, .int y2_4), (5, .int y2_5)] [] (m, S) (some (.int r0)) (m, S) := by
      intro n
      induction n with
      | zero => intro y2_4 y2_5 h; exact absurd h (by simp [f_Ways_gift_L35])
      | succ n35 ih35 =>
        intro y2_4 y2_5 h
        try dsimp only at h
        rw [f_Ways_gift_L35] at h
        try dsimp only at h
        exact rsub [(0, .ref 97), (1, .long x1), (3, .int x3), (4, .int y2_4), (5, .int y2_5)] ⟨rfl, ⟨rfl, ⟨rfl, ⟨rfl, ⟨rfl, trivial⟩⟩⟩⟩⟩ ⟨rfl, ⟨rfl, ⟨rfl, ⟨rfl, ⟨rfl, trivial⟩⟩⟩⟩⟩ (ih35 y2_4 y2_5 h)
    exact rsub [(0, .ref 97), (1, .long x1), (3, .int x3), (4, .int ((-1))), (5, .int 0)] ⟨rfl, ⟨rfl, ⟨rfl, ⟨rfl, ⟨rfl, trivial⟩⟩⟩⟩⟩ ⟨rfl, ⟨rfl, ⟨rfl, ⟨rfl, ⟨rfl, trivial⟩⟩⟩⟩⟩ (lp35 N ((-1)) 0 h)
  rw [jn] at h
  try dsimp only at h
  by_cases c3 : ((mI m 97 2)) = 3
  · rw [if_pos c3] at h
    refine rjf (a := (29, [(0, .ref 97), (1, .long x1), (3, .int x3)], [])) (b := (8, [(0, .ref 97), (1, .long x1), (3, .int x3)], [])) rfl rfl (fun q => q c3) ?_
    refine rsn 1 (t := (9, [(0, .ref 97), (1, .long x1), (3, .int x3)], [.ref 97])) rfl ?_
    refine rgR rfl rfl rfl (hSh.1.k 97 rfl _) (hSh.1.r 102 rfl _) ?_
    refine rsn 3 (t := (15, [(0, .ref 97), (1, .long x1), (3, .int x3)], [.ref 97, .int 3, .long x1, .ref 10])) rfl ?_
    refine rgR rfl rfl rfl (hSh.1.k 97 rfl _) (hSh.1.r 102 rfl _) ?_
    refine pgI rfl rfl rfl (hSh.1.k 10 rfl _) ?_
    show RN xs L al (Ev xs L al d) 131 21 [(0, .ref 97), (1, .long x1), (3, .int x3)] [.int ((mI m 10 2)), .int 3, .long x1, .ref 10] (m, S) (some (.int r0)) (m, S)
    obtain ⟨r4, g4, h⟩ := b1_some h
    refine rcV 67 10 [.long x1, .int 3, .int ((mI m 10 2))] rfl rfl rfl (hSh.1.k 10 rfl _) (Nat.le_of_ble_eq_true rfl) rfl (e_Will_mayGive N (by omega) hSh (by decide) g4) ?_
    show RN xs L al (Ev xs L al d) 131 24 [(0, .ref 97), (1, .long x1), (3, .int x3)] [.int r4] (m, S) (some (.int r0)) (m, S)
    by_cases c5 : r4 = 0
    · rw [if_pos c5] at h
      refine rjt (a := (29, [(0, .ref 97), (1, .long x1), (3, .int x3)], [])) (b := (27, [(0, .ref 97), (1, .long x1), (3, .int x3)], [])) rfl rfl c5 ?_
      exact rsub [(0, .ref 97), (1, .long x1), (3, .int x3)] ⟨rfl, ⟨rfl, ⟨rfl, trivial⟩⟩⟩ ⟨rfl, ⟨rfl, ⟨rfl, trivial⟩⟩⟩ (jp29 () h)
    · rw [if_neg c5] at h
      refine rjf (a := (29, [(0, .ref 97), (1, .long x1), (3, .int x3)], [])) (b := (27, [(0, .ref 97), (1, .long x1), (3, .int x3)], [])) rfl rfl c5 ?_
      refine rsn 1 (t := (28, [(0, .ref 97), (1, .long x1), (3, .int x3)], [.int 3])) rfl ?_
      cases h
      exact rret rfl ⟨rfl, rfl, _, _, rfl, rfl, rfl, rfl⟩
  · rw [if_neg c3] at h
    refine rjt (a := (29, [(0, .ref 97), (1, .long x1), (3, .int x3)], [])) (b := (8, [(0, .ref 97), (1, .long x1), (3, .int x3)], [])) rfl rfl c3 ?_
    exact rsub [(0, .ref 97), (1, .long x1), (3, .int x3)] ⟨rfl, ⟨rfl, ⟨rfl, trivial⟩⟩⟩ ⟨rfl, ⟨rfl, ⟨rfl, trivial⟩⟩⟩ (jp29 () h)
def f_Will_chancesFrom_L5 (N : Nat) (S : St) (x0 : Nat) (x2 : Int32) (m : Mm) (k5 : Int32 → Int32 → Option (Int32)) : Nat → Int32 → Int32 → Option (Int32)
  | 0, _, _ => none
  | n5 + 1, x3, x4 => f_Will_chancesFrom_L5 N S x0 x2 m k5 n5 x3 x4
def f_Will_chancesFrom (N : Nat) (S : St) (x0 : Nat) (x1 : Int32) (x2 : Int32) (m : Mm) : Option (Int32) := f_Will_chancesFrom_L5 N S x0 x2 m (fun (z1_3 : Int32) (z1_4 : Int32) => some z1_3) N 0 x1
set_option maxRecDepth 20000 in
set_option maxHeartbeats 4000000 in
theorem e_Will_chancesFrom {xs : Nat → Int32} {L : Nat} {al : Bool} (N : Nat) {d : Nat} (hd : 4 ≤ d) {S : St} (hSh : ShC S) {x0 : Nat} {x1 : Int32} {x2 : Int32} (hx0 : x0 ∈ wKl) {m : Mm} {r0 : Int32} (h : f_Will_chancesFrom N S x0 x1 x2 m = some r0) : Ev xs L al d 135 [.ref x0, .int x1, .int x2] (m, S) (some (.int r0)) (m, S) := by
  obtain ⟨d, rfl⟩ : ∃ e, d = e + 1 := ⟨d - 1, by omega⟩
  refine ev_of (by decide) (Nat.le_of_ble_eq_true rfl) ?_
  rw [f_Will_chancesFrom] at h
  show RN xs L al (Ev xs L al d) 135 0 [(0, .ref x0), (1, .int x1), (2, .int x2)] [] (m, S) (some (.int r0)) (m, S)
  refine rsn 4 (t := (5, [(4, .int x1), (3, .int 0), (0, .ref x0), (1, .int x1), (2, .int x2)], [])) rfl ?_
  have ex5 : ∀ (z1_3 : Int32) (z1_4 : Int32), (some z1_3) = some r0 → RN xs L al (Ev xs L al d) 135 63 [(3, .int z1_3)] [] (m, S) (some (.int r0)) (m, S) := by
    intro z1_3 z1_4 h
    try dsimp only at h
    refine rsn 1 (t := (64, [(3, .int z1_3)], [.int z1_3])) rfl ?_
    cases h
    exact rret rfl ⟨rfl, rfl, _, _, rfl, rfl, rfl, rfl⟩
  have lp5 : ∀ (n : Nat) (y2_3 : Int32) (y2_4 : Int32), (f_Will_chancesFrom_L5 N S x0 x2 m (fun (z1_3 : Int32) (z1_4 : Int32) => some z1_3) n y2_3 y2_4) = some r0 → RN xs L al (Ev xs L al d) 135 5 [(0, .ref x0), (2, .int x2), (3, .int y2_3), (4, .int y2_4)] [] (m, S) (some (.int r0)) (m, S) := by
    intro n
    induction n with
    | zero => intro y2_3 y2_4 h; exact absurd h (by simp [f_Will_chancesFrom_L5])
    | succ n5 ih5 =>
      intro y2_3 y2_4 h
      try dsimp only at h
      rw [f_Will_chancesFrom_L5] at h
      try dsimp only at h
      exact rsub [(0, .ref x0), (2, .int x2), (3, .int y2_3), (4, .int y2_4)] ⟨rfl, ⟨rfl, ⟨rfl, ⟨rfl, trivial⟩⟩⟩⟩ ⟨rfl, ⟨rfl, ⟨rfl, ⟨rfl, trivial⟩⟩⟩⟩ (ih5 y2_3 y2_4 h)
  exact rsub [(0, .ref x0), (2, .int x2), (3, .int 0), (4, .int x1)] ⟨rfl, ⟨rfl, ⟨rfl, ⟨rfl, trivial⟩⟩⟩⟩ ⟨rfl, ⟨rfl, ⟨rfl, ⟨rfl, trivial⟩⟩⟩⟩ (lp5 N 0 x1 h)
def f_SC_paper (N : Nat) (S : St) (x1 : Int32) (x2 : Int32) (m : Mm) : Option (Int32) := (if ((mI m 0 6)) = 0 then some ((-1)) else b1 (f_Will_isHeir N S 10 x1 m) fun r2 => (if r2 = 0 then some ((-1)) else (if x2 < 0 then some ((-1)) else (if x2 < 3 then b1 (f_State_dayOf N ((mJ m 0 7))) fun r6 => b1 (f_Will_chancesFrom N S 10 r6 x2 m) fun r7 => b1 (f_Will_worth N S 10 x1 x2 m) fun r8 => some ((r7 * r8)) else some ((-1))))))
set_option maxRecDepth 20000 in
set_option maxHeartbeats 4000000 in
theorem e_SC_paper {xs : Nat → Int32} {L : Nat} {al : Bool} (N : Nat) {d : Nat} (hd : 5 ≤ d) {S : St} (hSh : ShC S) {x1 : Int32} {x2 : Int32} {m : Mm} {r0 : Int32} (h : f_SC_paper N S x1 x2 m = some r0) : Ev xs L al d 134 [.ref 0, .int x1, .int x2] (m, S) (some (.int r0)) (m, S) := by
  obtain ⟨d, rfl⟩ : ∃ e, d = e + 1 := ⟨d - 1, by omega⟩
  refine ev_of (by decide) (Nat.le_of_ble_eq_true rfl) ?_
  rw [f_SC_paper] at h
  show RN xs L al (Ev xs L al d) 134 0 [(0, .ref 0), (1, .int x1), (2, .int x2)] [] (m, S) (some (.int r0)) (m, S)
  refine rsn 1 (t := (1, [(0, .ref 0), (1, .int x1), (2, .int x2)], [.ref 0])) rfl ?_
  refine pgI rfl rfl rfl (hSh.1.k 0 rfl _) ?_
  show RN xs L al (Ev xs L al d) 134 4 [(0, .ref 0), (1, .int x1), (2, .int x2)] [.int ((mI m 0 6))] (m, S) (some (.int r0)) (m, S)
  by_cases c1 : ((mI m 0 6)) = 0
  · rw [if_pos c1] at h
    refine rjt (a := (27, [(0, .ref 0), (1, .int x1), (2, .int x2)], [])) (b := (7, [(0, .ref 0), (1, .int x1), (2, .int x2)], [])) rfl rfl c1 ?_
    refine rsn 1 (t := (28, [(0, .ref 0), (1, .int x1), (2, .int x2)], [.int ((-1))])) rfl ?_
    cases h
    exact rret rfl ⟨rfl, rfl, _, _, rfl, rfl, rfl, rfl⟩
  · rw [if_neg c1] at h
    refine rjf (a := (27, [(0, .ref 0), (1, .int x1), (2, .int x2)], [])) (b := (7, [(0, .ref 0), (1, .int x1), (2, .int x2)], [])) rfl rfl c1 ?_
    refine rsn 1 (t := (8, [(0, .ref 0), (1, .int x1), (2, .int x2)], [.ref 0])) rfl ?_
    refine rgR rfl rfl rfl (hSh.1.k 0 rfl _) (hSh.1.r 88 rfl _) ?_
    refine rsn 1 (t := (12, [(0, .ref 0), (1, .int x1), (2, .int x2)], [.int x1, .ref 10])) rfl ?_
    obtain ⟨r2, g2, h⟩ := b1_some h
    refine rcV 53 10 [.int x1] rfl rfl rfl (hSh.1.k 10 rfl _) (Nat.le_of_ble_eq_true rfl) rfl (e_Will_isHeir N (by omega) hSh (by decide) g2) ?_
    show RN xs L al (Ev xs L al d) 134 15 [(0, .ref 0), (1, .int x1), (2, .int x2)] [.int r2] (m, S) (some (.int r0)) (m, S)
    by_cases c3 : r2 = 0
    · rw [if_pos c3] at h
      refine rjt (a := (27, [(0, .ref 0), (1, .int x1), (2, .int x2)], [])) (b := (18, [(0, .ref 0), (1, .int x1), (2, .int x2)], [])) rfl rfl c3 ?_
      refine rsn 1 (t := (28, [(0, .ref 0), (1, .int x1), (2, .int x2)], [.int ((-1))])) rfl ?_
      cases h
      exact rret rfl ⟨rfl, rfl, _, _, rfl, rfl, rfl, rfl⟩
    · rw [if_neg c3] at h
      refine rjf (a := (27, [(0, .ref 0), (1, .int x1), (2, .int x2)], [])) (b := (18, [(0, .ref 0), (1, .int x1), (2, .int x2)], [])) rfl rfl c3 ?_
      refine rsn 1 (t := (19, [(0, .ref 0), (1, .int x1), (2, .int x2)], [.int x2])) rfl ?_
      by_cases c4 : x2 < 0
      · rw [if_pos c4] at h
        refine rjt (a := (27, [(0, .ref 0), (1, .int x1), (2, .int x2)], [])) (b := (22, [(0, .ref 0), (1, .int x1), (2, .int x2)], [])) rfl rfl c4 ?_
        refine rsn 1 (t := (28, [(0, .ref 0), (1, .int x1), (2, .int x2)], [.int ((-1))])) rfl ?_
        cases h
        exact rret rfl ⟨rfl, rfl, _, _, rfl, rfl, rfl, rfl⟩
      · rw [if_neg c4] at h
        refine rjf (a := (27, [(0, .ref 0), (1, .int x1), (2, .int x2)], [])) (b := (22, [(0, .ref 0), (1, .int x1), (2, .int x2)], [])) rfl rfl c4 ?_
        refine rsn 2 (t := (24, [(0, .ref 0), (1, .int x1), (2, .int x2)], [.int 3, .int x2])) rfl ?_
        by_cases c5 : x2 < 3
        · rw [if_pos c5] at h
          refine rjt (a := (29, [(0, .ref 0), (1, .int x1), (2, .int x2)], [])) (b := (27, [(0, .ref 0), (1, .int x1), (2, .int x2)], [])) rfl rfl c5 ?_
          refine rsn 1 (t := (30, [(0, .ref 0), (1, .int x1), (2, .int x2)], [.ref 0])) rfl ?_
          refine rgR rfl rfl rfl (hSh.1.k 0 rfl _) (hSh.1.r 88 rfl _) ?_
          refine rsn 1 (t := (34, [(0, .ref 0), (1, .int x1), (2, .int x2)], [.ref 0, .ref 10])) rfl ?_
          refine pgJ rfl rfl rfl (hSh.1.k 0 rfl _) ?_
          show RN xs L al (Ev xs L al d) 134 37 [(0, .ref 0), (1, .int x1), (2, .int x2)] [.long ((mJ m 0 7)), .ref 10] (m, S) (some (.int r0)) (m, S)
          obtain ⟨r6, g6, h⟩ := b1_some h
          refine rcS 63 [.long ((mJ m 0 7))] rfl rfl rfl (Nat.le_of_ble_eq_true rfl) rfl (e_State_dayOf N (by omega) g6) ?_
          show RN xs L al (Ev xs L al d) 134 40 [(0, .ref 0), (1, .int x1), (2, .int x2)] [.int r6, .ref 10] (m, S) (some (.int r0)) (m, S)
          refine rsn 1 (t := (41, [(0, .ref 0), (1, .int x1), (2, .int x2)], [.int x2, .int r6, .ref 10])) rfl ?_
          obtain ⟨r7, g7, h⟩ := b1_some h
          refine rcV 135 10 [.int r6, .int x2] rfl rfl rfl (hSh.1.k 10 rfl _) (Nat.le_of_ble_eq_true rfl) rfl (e_Will_chancesFrom N (by omega) hSh (by decide) g7) ?_
          show RN xs L al (Ev xs L al d) 134 44 [(0, .ref 0), (1, .int x1), (2, .int x2)] [.int r7] (m, S) (some (.int r0)) (m, S)
          refine rsn 1 (t := (45, [(0, .ref 0), (1, .int x1), (2, .int x2)], [.ref 0, .int r7])) rfl ?_
          refine rgR rfl rfl rfl (hSh.1.k 0 rfl _) (hSh.1.r 88 rfl _) ?_
          refine rsn 2 (t := (50, [(0, .ref 0), (1, .int x1), (2, .int x2)], [.int x2, .int x1, .ref 10, .int r7])) rfl ?_
          obtain ⟨r8, g8, h⟩ := b1_some h
          refine rcV 56 10 [.int x1, .int x2] rfl rfl rfl (hSh.1.k 10 rfl _) (Nat.le_of_ble_eq_true rfl) rfl (e_Will_worth N (by omega) hSh (by decide) g8) ?_
          show RN xs L al (Ev xs L al d) 134 53 [(0, .ref 0), (1, .int x1), (2, .int x2)] [.int r8, .int r7] (m, S) (some (.int r0)) (m, S)
          refine rsn 1 (t := (54, [(0, .ref 0), (1, .int x1), (2, .int x2)], [.int ((r7 * r8))])) rfl ?_
          cases h
          exact rret rfl ⟨rfl, rfl, _, _, rfl, rfl, rfl, rfl⟩
        · rw [if_neg c5] at h
          refine rjf (a := (29, [(0, .ref 0), (1, .int x1), (2, .int x2)], [])) (b := (27, [(0, .ref 0), (1, .int x1), (2, .int x2)], [])) rfl rfl c5 ?_
          refine rsn 1 (t := (28, [(0, .ref 0), (1, .int x1), (2, .int x2)], [.int ((-1))])) rfl ?_
          cases h
          exact rret rfl ⟨rfl, rfl, _, _, rfl, rfl, rfl, rfl⟩
def f_Rows_firstUnlawful_L13 (N : Nat) (S : St) (x3 : Int32) (x4 : Int32) (x7 : Int32) (m : Mm) (k13 : Int64 → Int32 → Option (Int32)) : Nat → Int64 → Int32 → Option (Int32)
  | 0, _, _ => none
  | n13 + 1, x5, x8 => f_Rows_firstUnlawful_L13 N S x3 x4 x7 m k13 n13 x5 x8
def f_Rows_firstUnlawful (N : Nat) (S : St) (x1 : Int64) (x3 : Int32) (x4 : Int32) (m : Mm) : Option (Int32) := b1 (f_State_dayOf N x1) fun r1 => f_Rows_firstUnlawful_L13 N S x3 x4 r1 m (fun (z2_5 : Int64) (z2_8 : Int32) => some ((-1))) N x1 r1
set_option maxRecDepth 20000 in
set_option maxHeartbeats 4000000 in
theorem e_Rows_firstUnlawful {xs : Nat → Int32} {L : Nat} {al : Bool} (N : Nat) {d : Nat} (hd : 5 ≤ d) {S : St} (hSh : ShC S) {x1 : Int64} {x3 : Int32} {x4 : Int32} {m : Mm} {r0 : Int32} (h : f_Rows_firstUnlawful N S x1 x3 x4 m = some r0) : Ev xs L al d 137 [.ref 30, .long x1, .int x3, .int x4] (m, S) (some (.int r0)) (m, S) := by
  obtain ⟨d, rfl⟩ : ∃ e, d = e + 1 := ⟨d - 1, by omega⟩
  refine ev_of (by decide) (Nat.le_of_ble_eq_true rfl) ?_
  rw [f_Rows_firstUnlawful] at h
  show RN xs L al (Ev xs L al d) 137 0 [(0, .ref 30), (1, .long x1), (3, .int x3), (4, .int x4)] [] (m, S) (some (.int r0)) (m, S)
  refine rsn 3 (t := (4, [(5, .long x1), (0, .ref 30), (1, .long x1), (3, .int x3), (4, .int x4)], [.long x1])) rfl ?_
  obtain ⟨r1, g1, h⟩ := b1_some h
  refine rcS 63 [.long x1] rfl rfl rfl (Nat.le_of_ble_eq_true rfl) rfl (e_State_dayOf N (by omega) g1) ?_
  show RN xs L al (Ev xs L al d) 137 7 [(5, .long x1), (0, .ref 30), (1, .long x1), (3, .int x3), (4, .int x4)] [.int r1] (m, S) (some (.int r0)) (m, S)
  refine rsn 3 (t := (13, [(8, .int r1), (7, .int r1), (5, .long x1), (0, .ref 30), (1, .long x1), (3, .int x3), (4, .int x4)], [])) rfl ?_
  have ex13 : ∀ (z2_5 : Int64) (z2_8 : Int32), (some ((-1))) = some r0 → RN xs L al (Ev xs L al d) 137 145 [] [] (m, S) (some (.int r0)) (m, S) := by
    intro z2_5 z2_8 h
    try dsimp only at h
    refine rsn 1 (t := (146, [], [.int ((-1))])) rfl ?_
    cases h
    exact rret rfl ⟨rfl, rfl, _, _, rfl, rfl, rfl, rfl⟩
  have lp13 : ∀ (n : Nat) (y3_5 : Int64) (y3_8 : Int32), (f_Rows_firstUnlawful_L13 N S x3 x4 r1 m (fun (z2_5 : Int64) (z2_8 : Int32) => some ((-1))) n y3_5 y3_8) = some r0 → RN xs L al (Ev xs L al d) 137 13 [(0, .ref 30), (3, .int x3), (4, .int x4), (5, .long y3_5), (7, .int r1), (8, .int y3_8)] [] (m, S) (some (.int r0)) (m, S) := by
    intro n
    induction n with
    | zero => intro y3_5 y3_8 h; exact absurd h (by simp [f_Rows_firstUnlawful_L13])
    | succ n13 ih13 =>
      intro y3_5 y3_8 h
      try dsimp only at h
      rw [f_Rows_firstUnlawful_L13] at h
      try dsimp only at h
      exact rsub [(0, .ref 30), (3, .int x3), (4, .int x4), (5, .long y3_5), (7, .int r1), (8, .int y3_8)] ⟨rfl, ⟨rfl, ⟨rfl, ⟨rfl, ⟨rfl, ⟨rfl, trivial⟩⟩⟩⟩⟩⟩ ⟨rfl, ⟨rfl, ⟨rfl, ⟨rfl, ⟨rfl, ⟨rfl, trivial⟩⟩⟩⟩⟩⟩ (ih13 y3_5 y3_8 h)
  exact rsub [(0, .ref 30), (3, .int x3), (4, .int x4), (5, .long x1), (7, .int r1), (8, .int r1)] ⟨rfl, ⟨rfl, ⟨rfl, ⟨rfl, ⟨rfl, ⟨rfl, trivial⟩⟩⟩⟩⟩⟩ ⟨rfl, ⟨rfl, ⟨rfl, ⟨rfl, ⟨rfl, ⟨rfl, trivial⟩⟩⟩⟩⟩⟩ (lp13 N x1 r1 h)
def f_SC_judge (N : Nat) (S : St) (x1 : Int32) (x2 : Int32) (m : Mm) : Option (Int32) := (if ((mI m 0 6)) = 0 then some 9 else (if ((mI m 0 8)) = ((-1)) then b1 (f_Rows_canBe N S x1 ((mJ m 0 7)) m) fun r3 => (if r3 = 0 then some 9 else b1 (f_Rows_canHoldGifts N S x2 ((mJ m 0 7)) m) fun r5 => (if r5 = 0 then some 9 else b1 (f_Rows_firstUnlawful N S ((mJ m 0 7)) x1 x2 m) fun r7 => some r7)) else some 9))
set_option maxRecDepth 20000 in
set_option maxHeartbeats 4000000 in
theorem e_SC_judge {xs : Nat → Int32} {L : Nat} {al : Bool} (N : Nat) {d : Nat} (hd : 6 ≤ d) {S : St} (hSh : ShC S) {x1 : Int32} {x2 : Int32} {m : Mm} {r0 : Int32} (h : f_SC_judge N S x1 x2 m = some r0) : Ev xs L al d 136 [.ref 0, .int x1, .int x2] (m, S) (some (.int r0)) (m, S) := by
  obtain ⟨d, rfl⟩ : ∃ e, d = e + 1 := ⟨d - 1, by omega⟩
  refine ev_of (by decide) (Nat.le_of_ble_eq_true rfl) ?_
  rw [f_SC_judge] at h
  show RN xs L al (Ev xs L al d) 136 0 [(0, .ref 0), (1, .int x1), (2, .int x2)] [] (m, S) (some (.int r0)) (m, S)
  refine rsn 1 (t := (1, [(0, .ref 0), (1, .int x1), (2, .int x2)], [.ref 0])) rfl ?_
  refine pgI rfl rfl rfl (hSh.1.k 0 rfl _) ?_
  show RN xs L al (Ev xs L al d) 136 4 [(0, .ref 0), (1, .int x1), (2, .int x2)] [.int ((mI m 0 6))] (m, S) (some (.int r0)) (m, S)
  by_cases c1 : ((mI m 0 6)) = 0
  · rw [if_pos c1] at h
    refine rjt (a := (51, [(0, .ref 0), (1, .int x1), (2, .int x2)], [])) (b := (7, [(0, .ref 0), (1, .int x1), (2, .int x2)], [])) rfl rfl c1 ?_
    refine rsn 1 (t := (53, [(0, .ref 0), (1, .int x1), (2, .int x2)], [.int 9])) rfl ?_
    cases h
    exact rret rfl ⟨rfl, rfl, _, _, rfl, rfl, rfl, rfl⟩
  · rw [if_neg c1] at h
    refine rjf (a := (51, [(0, .ref 0), (1, .int x1), (2, .int x2)], [])) (b := (7, [(0, .ref 0), (1, .int x1), (2, .int x2)], [])) rfl rfl c1 ?_
    refine rsn 1 (t := (8, [(0, .ref 0), (1, .int x1), (2, .int x2)], [.ref 0])) rfl ?_
    refine pgI rfl rfl rfl (hSh.1.k 0 rfl _) ?_
    show RN xs L al (Ev xs L al d) 136 11 [(0, .ref 0), (1, .int x1), (2, .int x2)] [.int ((mI m 0 8))] (m, S) (some (.int r0)) (m, S)
    refine rsn 1 (t := (12, [(0, .ref 0), (1, .int x1), (2, .int x2)], [.int ((-1)), .int ((mI m 0 8))])) rfl ?_
    by_cases c2 : ((mI m 0 8)) = ((-1))
    · rw [if_pos c2] at h
      refine rjf (a := (51, [(0, .ref 0), (1, .int x1), (2, .int x2)], [])) (b := (15, [(0, .ref 0), (1, .int x1), (2, .int x2)], [])) rfl rfl (fun q => q c2) ?_
      refine rsn 1 (t := (16, [(0, .ref 0), (1, .int x1), (2, .int x2)], [.ref 0])) rfl ?_
      refine rgR rfl rfl rfl (hSh.1.k 0 rfl _) (hSh.1.r 89 rfl _) ?_
      refine rgR rfl rfl rfl (hSh.1.k 17 rfl _) (hSh.1.r 94 rfl _) ?_
      refine rsn 2 (t := (24, [(0, .ref 0), (1, .int x1), (2, .int x2)], [.ref 0, .int x1, .ref 30])) rfl ?_
      refine pgJ rfl rfl rfl (hSh.1.k 0 rfl _) ?_
      show RN xs L al (Ev xs L al d) 136 27 [(0, .ref 0), (1, .int x1), (2, .int x2)] [.long ((mJ m 0 7)), .int x1, .ref 30] (m, S) (some (.int r0)) (m, S)
      obtain ⟨r3, g3, h⟩ := b1_some h
      refine rcV 114 30 [.int x1, .long ((mJ m 0 7))] rfl rfl rfl (hSh.1.k 30 rfl _) (Nat.le_of_ble_eq_true rfl) rfl (e_Rows_canBe N (by omega) hSh g3) ?_
      show RN xs L al (Ev xs L al d) 136 30 [(0, .ref 0), (1, .int x1), (2, .int x2)] [.int r3] (m, S) (some (.int r0)) (m, S)
      by_cases c4 : r3 = 0
      · rw [if_pos c4] at h
        refine rjt (a := (51, [(0, .ref 0), (1, .int x1), (2, .int x2)], [])) (b := (33, [(0, .ref 0), (1, .int x1), (2, .int x2)], [])) rfl rfl c4 ?_
        refine rsn 1 (t := (53, [(0, .ref 0), (1, .int x1), (2, .int x2)], [.int 9])) rfl ?_
        cases h
        exact rret rfl ⟨rfl, rfl, _, _, rfl, rfl, rfl, rfl⟩
      · rw [if_neg c4] at h
        refine rjf (a := (51, [(0, .ref 0), (1, .int x1), (2, .int x2)], [])) (b := (33, [(0, .ref 0), (1, .int x1), (2, .int x2)], [])) rfl rfl c4 ?_
        refine rsn 1 (t := (34, [(0, .ref 0), (1, .int x1), (2, .int x2)], [.ref 0])) rfl ?_
        refine rgR rfl rfl rfl (hSh.1.k 0 rfl _) (hSh.1.r 89 rfl _) ?_
        refine rgR rfl rfl rfl (hSh.1.k 17 rfl _) (hSh.1.r 94 rfl _) ?_
        refine rsn 2 (t := (42, [(0, .ref 0), (1, .int x1), (2, .int x2)], [.ref 0, .int x2, .ref 30])) rfl ?_
        refine pgJ rfl rfl rfl (hSh.1.k 0 rfl _) ?_
        show RN xs L al (Ev xs L al d) 136 45 [(0, .ref 0), (1, .int x1), (2, .int x2)] [.long ((mJ m 0 7)), .int x2, .ref 30] (m, S) (some (.int r0)) (m, S)
        obtain ⟨r5, g5, h⟩ := b1_some h
        refine rcV 116 30 [.int x2, .long ((mJ m 0 7))] rfl rfl rfl (hSh.1.k 30 rfl _) (Nat.le_of_ble_eq_true rfl) rfl (e_Rows_canHoldGifts N (by omega) hSh g5) ?_
        show RN xs L al (Ev xs L al d) 136 48 [(0, .ref 0), (1, .int x1), (2, .int x2)] [.int r5] (m, S) (some (.int r0)) (m, S)
        by_cases c6 : r5 = 0
        · rw [if_pos c6] at h
          refine rjf (a := (54, [(0, .ref 0), (1, .int x1), (2, .int x2)], [])) (b := (51, [(0, .ref 0), (1, .int x1), (2, .int x2)], [])) rfl rfl (fun q => q c6) ?_
          refine rsn 1 (t := (53, [(0, .ref 0), (1, .int x1), (2, .int x2)], [.int 9])) rfl ?_
          cases h
          exact rret rfl ⟨rfl, rfl, _, _, rfl, rfl, rfl, rfl⟩
        · rw [if_neg c6] at h
          refine rjt (a := (54, [(0, .ref 0), (1, .int x1), (2, .int x2)], [])) (b := (51, [(0, .ref 0), (1, .int x1), (2, .int x2)], [])) rfl rfl c6 ?_
          refine rsn 1 (t := (55, [(0, .ref 0), (1, .int x1), (2, .int x2)], [.ref 0])) rfl ?_
          refine rgR rfl rfl rfl (hSh.1.k 0 rfl _) (hSh.1.r 89 rfl _) ?_
          refine rgR rfl rfl rfl (hSh.1.k 17 rfl _) (hSh.1.r 94 rfl _) ?_
          refine rsn 1 (t := (62, [(0, .ref 0), (1, .int x1), (2, .int x2)], [.ref 0, .ref 30])) rfl ?_
          refine pgJ rfl rfl rfl (hSh.1.k 0 rfl _) ?_
          show RN xs L al (Ev xs L al d) 136 65 [(0, .ref 0), (1, .int x1), (2, .int x2)] [.long ((mJ m 0 7)), .ref 30] (m, S) (some (.int r0)) (m, S)
          refine rsn 2 (t := (67, [(0, .ref 0), (1, .int x1), (2, .int x2)], [.int x2, .int x1, .long ((mJ m 0 7)), .ref 30])) rfl ?_
          obtain ⟨r7, g7, h⟩ := b1_some h
          refine rcV 137 30 [.long ((mJ m 0 7)), .int x1, .int x2] rfl rfl rfl (hSh.1.k 30 rfl _) (Nat.le_of_ble_eq_true rfl) rfl (e_Rows_firstUnlawful N (by omega) hSh g7) ?_
          show RN xs L al (Ev xs L al d) 136 70 [(0, .ref 0), (1, .int x1), (2, .int x2)] [.int r7] (m, S) (some (.int r0)) (m, S)
          cases h
          exact rret rfl ⟨rfl, rfl, _, _, rfl, rfl, rfl, rfl⟩
    · rw [if_neg c2] at h
      refine rjt (a := (51, [(0, .ref 0), (1, .int x1), (2, .int x2)], [])) (b := (15, [(0, .ref 0), (1, .int x1), (2, .int x2)], [])) rfl rfl c2 ?_
      refine rsn 1 (t := (53, [(0, .ref 0), (1, .int x1), (2, .int x2)], [.int 9])) rfl ?_
      cases h
      exact rret rfl ⟨rfl, rfl, _, _, rfl, rfl, rfl, rfl⟩
def f_Rows_stateAfter_L13 (N : Nat) (S : St) (x3 : Int32) (x4 : Int32) (x7 : Int32) (m : Mm) (k13 : Int64 → Int32 → Option (Int64)) : Nat → Int64 → Int32 → Option (Int64)
  | 0, _, _ => none
  | n13 + 1, x5, x8 => f_Rows_stateAfter_L13 N S x3 x4 x7 m k13 n13 x5 x8
def f_Rows_stateAfter (N : Nat) (S : St) (x1 : Int64) (x3 : Int32) (x4 : Int32) (m : Mm) : Option (Int64) := b1 (f_State_dayOf N x1) fun r1 => f_Rows_stateAfter_L13 N S x3 x4 r1 m (fun (z2_5 : Int64) (z2_8 : Int32) => some z2_5) N x1 r1
set_option maxRecDepth 20000 in
set_option maxHeartbeats 4000000 in
theorem e_Rows_stateAfter {xs : Nat → Int32} {L : Nat} {al : Bool} (N : Nat) {d : Nat} (hd : 4 ≤ d) {S : St} (hSh : ShC S) {x1 : Int64} {x3 : Int32} {x4 : Int32} {m : Mm} {r0 : Int64} (h : f_Rows_stateAfter N S x1 x3 x4 m = some r0) : Ev xs L al d 139 [.ref 30, .long x1, .int x3, .int x4] (m, S) (some (.long r0)) (m, S) := by
  obtain ⟨d, rfl⟩ : ∃ e, d = e + 1 := ⟨d - 1, by omega⟩
  refine ev_of (by decide) (Nat.le_of_ble_eq_true rfl) ?_
  rw [f_Rows_stateAfter] at h
  show RN xs L al (Ev xs L al d) 139 0 [(0, .ref 30), (1, .long x1), (3, .int x3), (4, .int x4)] [] (m, S) (some (.long r0)) (m, S)
  refine rsn 3 (t := (4, [(5, .long x1), (0, .ref 30), (1, .long x1), (3, .int x3), (4, .int x4)], [.long x1])) rfl ?_
  obtain ⟨r1, g1, h⟩ := b1_some h
  refine rcS 63 [.long x1] rfl rfl rfl (Nat.le_of_ble_eq_true rfl) rfl (e_State_dayOf N (by omega) g1) ?_
  show RN xs L al (Ev xs L al d) 139 7 [(5, .long x1), (0, .ref 30), (1, .long x1), (3, .int x3), (4, .int x4)] [.int r1] (m, S) (some (.long r0)) (m, S)
  refine rsn 3 (t := (13, [(8, .int r1), (7, .int r1), (5, .long x1), (0, .ref 30), (1, .long x1), (3, .int x3), (4, .int x4)], [])) rfl ?_
  have ex13 : ∀ (z2_5 : Int64) (z2_8 : Int32), (some z2_5) = some r0 → RN xs L al (Ev xs L al d) 139 100 [(5, .long z2_5)] [] (m, S) (some (.long r0)) (m, S) := by
    intro z2_5 z2_8 h
    try dsimp only at h
    refine rsn 1 (t := (102, [(5, .long z2_5)], [.long z2_5])) rfl ?_
    cases h
    exact rret rfl ⟨rfl, rfl, _, rfl, rfl, rfl⟩
  have lp13 : ∀ (n : Nat) (y3_5 : Int64) (y3_8 : Int32), (f_Rows_stateAfter_L13 N S x3 x4 r1 m (fun (z2_5 : Int64) (z2_8 : Int32) => some z2_5) n y3_5 y3_8) = some r0 → RN xs L al (Ev xs L al d) 139 13 [(0, .ref 30), (3, .int x3), (4, .int x4), (5, .long y3_5), (7, .int r1), (8, .int y3_8)] [] (m, S) (some (.long r0)) (m, S) := by
    intro n
    induction n with
    | zero => intro y3_5 y3_8 h; exact absurd h (by simp [f_Rows_stateAfter_L13])
    | succ n13 ih13 =>
      intro y3_5 y3_8 h
      try dsimp only at h
      rw [f_Rows_stateAfter_L13] at h
      try dsimp only at h
      exact rsub [(0, .ref 30), (3, .int x3), (4, .int x4), (5, .long y3_5), (7, .int r1), (8, .int y3_8)] ⟨rfl, ⟨rfl, ⟨rfl, ⟨rfl, ⟨rfl, ⟨rfl, trivial⟩⟩⟩⟩⟩⟩ ⟨rfl, ⟨rfl, ⟨rfl, ⟨rfl, ⟨rfl, ⟨rfl, trivial⟩⟩⟩⟩⟩⟩ (ih13 y3_5 y3_8 h)
  exact rsub [(0, .ref 30), (3, .int x3), (4, .int x4), (5, .long x1), (7, .int r1), (8, .int r1)] ⟨rfl, ⟨rfl, ⟨rfl, ⟨rfl, ⟨rfl, ⟨rfl, trivial⟩⟩⟩⟩⟩⟩ ⟨rfl, ⟨rfl, ⟨rfl, ⟨rfl, ⟨rfl, ⟨rfl, trivial⟩⟩⟩⟩⟩⟩ (lp13 N x1 r1 h)
def f_SC_image (N : Nat) (S : St) (x1 : Int32) (m : Mm) : Option (Int32 × Mm) := (if ((mI m 0 6)) = 0 then some (0, m) else (if x1 < 0 then some (0, m) else (if x1 < 4 then ck (ix x1 4) (ck (ix x1 4) (ck (ix x1 4) (some (1, (vX (vY (vX m 98 x1.toNatClampNeg ((vp_nar .boolean 1))) 99 x1.toNatClampNeg ((mJ m 0 7))) 100 x1.toNatClampNeg ((mI m 0 8))))))) else some (0, m))))
set_option maxRecDepth 20000 in
set_option maxHeartbeats 4000000 in
theorem e_SC_image {xs : Nat → Int32} {L : Nat} {al : Bool} (N : Nat) {d : Nat} (hd : 1 ≤ d) {S : St} (hSh : ShC S) {x1 : Int32} {m : Mm} {r0 : Int32} {mf : Mm} (h : f_SC_image N S x1 m = some (r0, mf)) : Ev xs L al d 140 [.ref 0, .int x1] (m, S) (some (.int r0)) (mf, S) := by
  obtain ⟨d, rfl⟩ : ∃ e, d = e + 1 := ⟨d - 1, by omega⟩
  refine ev_of (by decide) (Nat.le_of_ble_eq_true rfl) ?_
  rw [f_SC_image] at h
  show RN xs L al (Ev xs L al d) 140 0 [(0, .ref 0), (1, .int x1)] [] (m, S) (some (.int r0)) (mf, S)
  refine rsn 1 (t := (1, [(0, .ref 0), (1, .int x1)], [.ref 0])) rfl ?_
  refine pgI rfl rfl rfl (hSh.1.k 0 rfl _) ?_
  show RN xs L al (Ev xs L al d) 140 4 [(0, .ref 0), (1, .int x1)] [.int ((mI m 0 6))] (m, S) (some (.int r0)) (mf, S)
  by_cases c1 : ((mI m 0 6)) = 0
  · rw [if_pos c1] at h
    refine rjt (a := (16, [(0, .ref 0), (1, .int x1)], [])) (b := (7, [(0, .ref 0), (1, .int x1)], [])) rfl rfl c1 ?_
    refine rsn 1 (t := (17, [(0, .ref 0), (1, .int x1)], [.int 0])) rfl ?_
    cases h
    exact rret rfl ⟨rfl, rfl, _, _, rfl, rfl, rfl, rfl⟩
  · rw [if_neg c1] at h
    refine rjf (a := (16, [(0, .ref 0), (1, .int x1)], [])) (b := (7, [(0, .ref 0), (1, .int x1)], [])) rfl rfl c1 ?_
    refine rsn 1 (t := (8, [(0, .ref 0), (1, .int x1)], [.int x1])) rfl ?_
    by_cases c2 : x1 < 0
    · rw [if_pos c2] at h
      refine rjt (a := (16, [(0, .ref 0), (1, .int x1)], [])) (b := (11, [(0, .ref 0), (1, .int x1)], [])) rfl rfl c2 ?_
      refine rsn 1 (t := (17, [(0, .ref 0), (1, .int x1)], [.int 0])) rfl ?_
      cases h
      exact rret rfl ⟨rfl, rfl, _, _, rfl, rfl, rfl, rfl⟩
    · rw [if_neg c2] at h
      refine rjf (a := (16, [(0, .ref 0), (1, .int x1)], [])) (b := (11, [(0, .ref 0), (1, .int x1)], [])) rfl rfl c2 ?_
      refine rsn 2 (t := (13, [(0, .ref 0), (1, .int x1)], [.int 4, .int x1])) rfl ?_
      by_cases c3 : x1 < 4
      · rw [if_pos c3] at h
        refine rjt (a := (18, [(0, .ref 0), (1, .int x1)], [])) (b := (16, [(0, .ref 0), (1, .int x1)], [])) rfl rfl c3 ?_
        refine rsn 1 (t := (19, [(0, .ref 0), (1, .int x1)], [.ref 0])) rfl ?_
        refine rgR rfl rfl rfl (hSh.1.k 0 rfl _) (hSh.1.r 90 rfl _) ?_
        refine rsn 2 (t := (24, [(0, .ref 0), (1, .int x1)], [.int 1, .int x1, .ref 98])) rfl ?_
        obtain ⟨c4, h⟩ := ck_some h
        refine psZ rfl (hSh.1.k 98 rfl _) (hSh.1.l 26 rfl _) c4 ?_
        refine rsn 1 (t := (26, [(0, .ref 0), (1, .int x1)], [.ref 0])) rfl ?_
        refine rgR rfl rfl rfl (hSh.1.k 0 rfl _) (hSh.1.r 91 rfl _) ?_
        refine rsn 2 (t := (31, [(0, .ref 0), (1, .int x1)], [.ref 0, .int x1, .ref 99])) rfl ?_
        refine pgJ rfl rfl rfl (hSh.1.k 0 rfl _) ?_
        show RN xs L al (Ev xs L al d) 140 34 [(0, .ref 0), (1, .int x1)] [.long ((mJ m 0 7)), .int x1, .ref 99] ((vX m 98 x1.toNatClampNeg ((vp_nar .boolean 1))), S) (some (.int r0)) (mf, S)
        obtain ⟨c5, h⟩ := ck_some h
        refine psJ rfl (hSh.1.k 99 rfl _) (hSh.1.l 27 rfl _) c5 ?_
        refine rsn 1 (t := (36, [(0, .ref 0), (1, .int x1)], [.ref 0])) rfl ?_
        refine rgR rfl rfl rfl (hSh.1.k 0 rfl _) (hSh.1.r 92 rfl _) ?_
        refine rsn 2 (t := (41, [(0, .ref 0), (1, .int x1)], [.ref 0, .int x1, .ref 100])) rfl ?_
        refine pgI rfl rfl rfl (hSh.1.k 0 rfl _) ?_
        show RN xs L al (Ev xs L al d) 140 44 [(0, .ref 0), (1, .int x1)] [.int ((mI m 0 8)), .int x1, .ref 100] ((vY (vX m 98 x1.toNatClampNeg ((vp_nar .boolean 1))) 99 x1.toNatClampNeg ((mJ m 0 7))), S) (some (.int r0)) (mf, S)
        obtain ⟨c6, h⟩ := ck_some h
        refine psI rfl (hSh.1.k 100 rfl _) (hSh.1.l 28 rfl _) c6 ?_
        refine rsn 1 (t := (46, [(0, .ref 0), (1, .int x1)], [.int 1])) rfl ?_
        cases h
        exact rret rfl ⟨rfl, rfl, _, _, rfl, rfl, rfl, rfl⟩
      · rw [if_neg c3] at h
        refine rjf (a := (18, [(0, .ref 0), (1, .int x1)], [])) (b := (16, [(0, .ref 0), (1, .int x1)], [])) rfl rfl c3 ?_
        refine rsn 1 (t := (17, [(0, .ref 0), (1, .int x1)], [.int 0])) rfl ?_
        cases h
        exact rret rfl ⟨rfl, rfl, _, _, rfl, rfl, rfl, rfl⟩
def f_SC_on (N : Nat) (S : St) (x1 : Int32) (m : Mm) : Option (Int32 × Mm) := (if x1 < 0 then some (0, m) else (if 4 ≤ x1 then some (0, m) else ck (ix x1 4) ((if ((mX m 98 x1.toNatClampNeg)) = 0 then some (0, m) else ck (ix x1 4) (ck (ix x1 4) (some (1, (vI (vJ m 0 7 ((mYy m 99 x1.toNatClampNeg))) 0 8 ((mX m 100 x1.toNatClampNeg))))))))))
set_option maxRecDepth 20000 in
set_option maxHeartbeats 4000000 in
theorem e_SC_on {xs : Nat → Int32} {L : Nat} {al : Bool} (N : Nat) {d : Nat} (hd : 1 ≤ d) {S : St} (hSh : ShC S) {x1 : Int32} {m : Mm} {r0 : Int32} {mf : Mm} (h : f_SC_on N S x1 m = some (r0, mf)) : Ev xs L al d 141 [.ref 0, .int x1] (m, S) (some (.int r0)) (mf, S) := by
  obtain ⟨d, rfl⟩ : ∃ e, d = e + 1 := ⟨d - 1, by omega⟩
  refine ev_of (by decide) (Nat.le_of_ble_eq_true rfl) ?_
  rw [f_SC_on] at h
  show RN xs L al (Ev xs L al d) 141 0 [(0, .ref 0), (1, .int x1)] [] (m, S) (some (.int r0)) (mf, S)
  refine rsn 1 (t := (1, [(0, .ref 0), (1, .int x1)], [.int x1])) rfl ?_
  by_cases c1 : x1 < 0
  · rw [if_pos c1] at h
    refine rjt (a := (18, [(0, .ref 0), (1, .int x1)], [])) (b := (4, [(0, .ref 0), (1, .int x1)], [])) rfl rfl c1 ?_
    refine rsn 1 (t := (19, [(0, .ref 0), (1, .int x1)], [.int 0])) rfl ?_
    cases h
    exact rret rfl ⟨rfl, rfl, _, _, rfl, rfl, rfl, rfl⟩
  · rw [if_neg c1] at h
    refine rjf (a := (18, [(0, .ref 0), (1, .int x1)], [])) (b := (4, [(0, .ref 0), (1, .int x1)], [])) rfl rfl c1 ?_
    refine rsn 2 (t := (6, [(0, .ref 0), (1, .int x1)], [.int 4, .int x1])) rfl ?_
    by_cases c2 : 4 ≤ x1
    · rw [if_pos c2] at h
      refine rjt (a := (18, [(0, .ref 0), (1, .int x1)], [])) (b := (9, [(0, .ref 0), (1, .int x1)], [])) rfl rfl c2 ?_
      refine rsn 1 (t := (19, [(0, .ref 0), (1, .int x1)], [.int 0])) rfl ?_
      cases h
      exact rret rfl ⟨rfl, rfl, _, _, rfl, rfl, rfl, rfl⟩
    · rw [if_neg c2] at h
      refine rjf (a := (18, [(0, .ref 0), (1, .int x1)], [])) (b := (9, [(0, .ref 0), (1, .int x1)], [])) rfl rfl c2 ?_
      refine rsn 1 (t := (10, [(0, .ref 0), (1, .int x1)], [.ref 0])) rfl ?_
      refine rgR rfl rfl rfl (hSh.1.k 0 rfl _) (hSh.1.r 90 rfl _) ?_
      refine rsn 1 (t := (14, [(0, .ref 0), (1, .int x1)], [.int x1, .ref 98])) rfl ?_
      obtain ⟨c3, h⟩ := ck_some h
      refine pxB rfl (Or.inr (hSh.1.k 98 rfl _)) (hSh.1.l 26 rfl _) c3 ?_
      show RN xs L al (Ev xs L al d) 141 15 [(0, .ref 0), (1, .int x1)] [.int ((mX m 98 x1.toNatClampNeg))] (m, S) (some (.int r0)) (mf, S)
      by_cases c4 : ((mX m 98 x1.toNatClampNeg)) = 0
      · rw [if_pos c4] at h
        refine rjf (a := (20, [(0, .ref 0), (1, .int x1)], [])) (b := (18, [(0, .ref 0), (1, .int x1)], [])) rfl rfl (fun q => q c4) ?_
        refine rsn 1 (t := (19, [(0, .ref 0), (1, .int x1)], [.int 0])) rfl ?_
        cases h
        exact rret rfl ⟨rfl, rfl, _, _, rfl, rfl, rfl, rfl⟩
      · rw [if_neg c4] at h
        refine rjt (a := (20, [(0, .ref 0), (1, .int x1)], [])) (b := (18, [(0, .ref 0), (1, .int x1)], [])) rfl rfl c4 ?_
        refine rsn 2 (t := (22, [(0, .ref 0), (1, .int x1)], [.ref 0, .ref 0])) rfl ?_
        refine rgR rfl rfl rfl (hSh.1.k 0 rfl _) (hSh.1.r 91 rfl _) ?_
        refine rsn 1 (t := (26, [(0, .ref 0), (1, .int x1)], [.int x1, .ref 99, .ref 0])) rfl ?_
        obtain ⟨c5, h⟩ := ck_some h
        refine pxJ rfl (hSh.1.k 99 rfl _) (hSh.1.l 27 rfl _) c5 ?_
        show RN xs L al (Ev xs L al d) 141 27 [(0, .ref 0), (1, .int x1)] [.long ((mYy m 99 x1.toNatClampNeg)), .ref 0] (m, S) (some (.int r0)) (mf, S)
        refine ppJ rfl rfl rfl rfl (hSh.1.k 0 rfl _) ?_
        refine rsn 2 (t := (32, [(0, .ref 0), (1, .int x1)], [.ref 0, .ref 0])) rfl ?_
        refine rgR rfl rfl rfl (hSh.1.k 0 rfl _) (hSh.1.r 92 rfl _) ?_
        refine rsn 1 (t := (36, [(0, .ref 0), (1, .int x1)], [.int x1, .ref 100, .ref 0])) rfl ?_
        obtain ⟨c6, h⟩ := ck_some h
        refine pxI rfl (hSh.1.k 100 rfl _) (hSh.1.l 28 rfl _) c6 ?_
        show RN xs L al (Ev xs L al d) 141 37 [(0, .ref 0), (1, .int x1)] [.int ((mX m 100 x1.toNatClampNeg)), .ref 0] ((vJ m 0 7 ((mYy m 99 x1.toNatClampNeg))), S) (some (.int r0)) (mf, S)
        refine ppI rfl rfl rfl rfl (hSh.1.k 0 rfl _) ?_
        refine rsn 1 (t := (41, [(0, .ref 0), (1, .int x1)], [.int 1])) rfl ?_
        cases h
        exact rret rfl ⟨rfl, rfl, _, _, rfl, rfl, rfl, rfl⟩
def f_SC_count (N : Nat) (S : St) (x1 : Int32) (m : Mm) : Option (Int32) := (if x1 = 0 then some ((mI m 10 0)) else (if x1 = 1 then some ((mI m 10 1)) else (if x1 = 2 then b1 (f_State_dayOf N ((mJ m 0 7))) fun r1 => some r1 else (if x1 = 3 then b1 (f_State_cameOf N ((mJ m 0 7))) fun r2 => some r2 else (if x1 = 4 then b1 (f_State_heldOf N ((mJ m 0 7))) fun r3 => some r3 else (if x1 = 5 then some ((mI m 0 8)) else (if x1 = 6 then some ((mI m 10 2)) else (if x1 = 7 then some ((mI m 10 3)) else (if x1 = 8 then some ((mI m 0 1)) else some ((-1)))))))))))
set_option maxRecDepth 20000 in
set_option maxHeartbeats 4000000 in
theorem e_SC_count {xs : Nat → Int32} {L : Nat} {al : Bool} (N : Nat) {d : Nat} (hd : 4 ≤ d) {S : St} (hSh : ShC S) {x1 : Int32} {m : Mm} {r0 : Int32} (h : f_SC_count N S x1 m = some r0) : Ev xs L al d 142 [.ref 0, .int x1] (m, S) (some (.int r0)) (m, S) := by
  obtain ⟨d, rfl⟩ : ∃ e, d = e + 1 := ⟨d - 1, by omega⟩
  refine ev_of (by decide) (Nat.le_of_ble_eq_true rfl) ?_
  rw [f_SC_count] at h
  show RN xs L al (Ev xs L al d) 142 0 [(0, .ref 0), (1, .int x1)] [] (m, S) (some (.int r0)) (m, S)
  refine rsn 1 (t := (1, [(0, .ref 0), (1, .int x1)], [.int x1])) rfl ?_
  by_cases c4 : x1 = 0
  · rw [if_pos c4] at h
    refine rs (t := (52, [(0, .ref 0), (1, .int x1)], [])) rfl (by rw [c4]; exact sw_i (pc := 1) (o := 51) ⟨by decide, by simp⟩ (by decide) (by decide)) ?_
    refine rsn 1 (t := (53, [(0, .ref 0), (1, .int x1)], [.ref 0])) rfl ?_
    refine rgR rfl rfl rfl (hSh.1.k 0 rfl _) (hSh.1.r 88 rfl _) ?_
    refine pgI rfl rfl rfl (hSh.1.k 10 rfl _) ?_
    show RN xs L al (Ev xs L al d) 142 59 [(0, .ref 0), (1, .int x1)] [.int ((mI m 10 0))] (m, S) (some (.int r0)) (m, S)
    cases h
    exact rret rfl ⟨rfl, rfl, _, _, rfl, rfl, rfl, rfl⟩
  rw [if_neg c4] at h
  by_cases c5 : x1 = 1
  · rw [if_pos c5] at h
    refine rs (t := (60, [(0, .ref 0), (1, .int x1)], [])) rfl (by rw [c5]; exact sw_i (pc := 1) (o := 59) ⟨by decide, by simp⟩ (by decide) (by decide)) ?_
    refine rsn 1 (t := (61, [(0, .ref 0), (1, .int x1)], [.ref 0])) rfl ?_
    refine rgR rfl rfl rfl (hSh.1.k 0 rfl _) (hSh.1.r 88 rfl _) ?_
    refine pgI rfl rfl rfl (hSh.1.k 10 rfl _) ?_
    show RN xs L al (Ev xs L al d) 142 67 [(0, .ref 0), (1, .int x1)] [.int ((mI m 10 1))] (m, S) (some (.int r0)) (m, S)
    cases h
    exact rret rfl ⟨rfl, rfl, _, _, rfl, rfl, rfl, rfl⟩
  rw [if_neg c5] at h
  by_cases c6 : x1 = 2
  · rw [if_pos c6] at h
    refine rs (t := (68, [(0, .ref 0), (1, .int x1)], [])) rfl (by rw [c6]; exact sw_i (pc := 1) (o := 67) ⟨by decide, by simp⟩ (by decide) (by decide)) ?_
    refine rsn 1 (t := (69, [(0, .ref 0), (1, .int x1)], [.ref 0])) rfl ?_
    refine pgJ rfl rfl rfl (hSh.1.k 0 rfl _) ?_
    show RN xs L al (Ev xs L al d) 142 72 [(0, .ref 0), (1, .int x1)] [.long ((mJ m 0 7))] (m, S) (some (.int r0)) (m, S)
    obtain ⟨r1, g1, h⟩ := b1_some h
    refine rcS 63 [.long ((mJ m 0 7))] rfl rfl rfl (Nat.le_of_ble_eq_true rfl) rfl (e_State_dayOf N (by omega) g1) ?_
    show RN xs L al (Ev xs L al d) 142 75 [(0, .ref 0), (1, .int x1)] [.int r1] (m, S) (some (.int r0)) (m, S)
    cases h
    exact rret rfl ⟨rfl, rfl, _, _, rfl, rfl, rfl, rfl⟩
  rw [if_neg c6] at h
  by_cases c7 : x1 = 3
  · rw [if_pos c7] at h
    refine rs (t := (76, [(0, .ref 0), (1, .int x1)], [])) rfl (by rw [c7]; exact sw_i (pc := 1) (o := 75) ⟨by decide, by simp⟩ (by decide) (by decide)) ?_
    refine rsn 1 (t := (77, [(0, .ref 0), (1, .int x1)], [.ref 0])) rfl ?_
    refine pgJ rfl rfl rfl (hSh.1.k 0 rfl _) ?_
    show RN xs L al (Ev xs L al d) 142 80 [(0, .ref 0), (1, .int x1)] [.long ((mJ m 0 7))] (m, S) (some (.int r0)) (m, S)
    obtain ⟨r2, g2, h⟩ := b1_some h
    refine rcS 55 [.long ((mJ m 0 7))] rfl rfl rfl (Nat.le_of_ble_eq_true rfl) rfl (e_State_cameOf N (by omega) g2) ?_
    show RN xs L al (Ev xs L al d) 142 83 [(0, .ref 0), (1, .int x1)] [.int r2] (m, S) (some (.int r0)) (m, S)
    cases h
    exact rret rfl ⟨rfl, rfl, _, _, rfl, rfl, rfl, rfl⟩
  rw [if_neg c7] at h
  by_cases c8 : x1 = 4
  · rw [if_pos c8] at h
    refine rs (t := (84, [(0, .ref 0), (1, .int x1)], [])) rfl (by rw [c8]; exact sw_i (pc := 1) (o := 83) ⟨by decide, by simp⟩ (by decide) (by decide)) ?_
    refine rsn 1 (t := (85, [(0, .ref 0), (1, .int x1)], [.ref 0])) rfl ?_
    refine pgJ rfl rfl rfl (hSh.1.k 0 rfl _) ?_
    show RN xs L al (Ev xs L al d) 142 88 [(0, .ref 0), (1, .int x1)] [.long ((mJ m 0 7))] (m, S) (some (.int r0)) (m, S)
    obtain ⟨r3, g3, h⟩ := b1_some h
    refine rcS 68 [.long ((mJ m 0 7))] rfl rfl rfl (Nat.le_of_ble_eq_true rfl) rfl (e_State_heldOf N (by omega) g3) ?_
    show RN xs L al (Ev xs L al d) 142 91 [(0, .ref 0), (1, .int x1)] [.int r3] (m, S) (some (.int r0)) (m, S)
    cases h
    exact rret rfl ⟨rfl, rfl, _, _, rfl, rfl, rfl, rfl⟩
  rw [if_neg c8] at h
  by_cases c9 : x1 = 5
  · rw [if_pos c9] at h
    refine rs (t := (92, [(0, .ref 0), (1, .int x1)], [])) rfl (by rw [c9]; exact sw_i (pc := 1) (o := 91) ⟨by decide, by simp⟩ (by decide) (by decide)) ?_
    refine rsn 1 (t := (93, [(0, .ref 0), (1, .int x1)], [.ref 0])) rfl ?_
    refine pgI rfl rfl rfl (hSh.1.k 0 rfl _) ?_
    show RN xs L al (Ev xs L al d) 142 96 [(0, .ref 0), (1, .int x1)] [.int ((mI m 0 8))] (m, S) (some (.int r0)) (m, S)
    cases h
    exact rret rfl ⟨rfl, rfl, _, _, rfl, rfl, rfl, rfl⟩
  rw [if_neg c9] at h
  by_cases c10 : x1 = 6
  · rw [if_pos c10] at h
    refine rs (t := (97, [(0, .ref 0), (1, .int x1)], [])) rfl (by rw [c10]; exact sw_i (pc := 1) (o := 96) ⟨by decide, by simp⟩ (by decide) (by decide)) ?_
    refine rsn 1 (t := (98, [(0, .ref 0), (1, .int x1)], [.ref 0])) rfl ?_
    refine rgR rfl rfl rfl (hSh.1.k 0 rfl _) (hSh.1.r 88 rfl _) ?_
    refine pgI rfl rfl rfl (hSh.1.k 10 rfl _) ?_
    show RN xs L al (Ev xs L al d) 142 104 [(0, .ref 0), (1, .int x1)] [.int ((mI m 10 2))] (m, S) (some (.int r0)) (m, S)
    cases h
    exact rret rfl ⟨rfl, rfl, _, _, rfl, rfl, rfl, rfl⟩
  rw [if_neg c10] at h
  by_cases c11 : x1 = 7
  · rw [if_pos c11] at h
    refine rs (t := (105, [(0, .ref 0), (1, .int x1)], [])) rfl (by rw [c11]; exact sw_i (pc := 1) (o := 104) ⟨by decide, by simp⟩ (by decide) (by decide)) ?_
    refine rsn 1 (t := (106, [(0, .ref 0), (1, .int x1)], [.ref 0])) rfl ?_
    refine rgR rfl rfl rfl (hSh.1.k 0 rfl _) (hSh.1.r 88 rfl _) ?_
    refine pgI rfl rfl rfl (hSh.1.k 10 rfl _) ?_
    show RN xs L al (Ev xs L al d) 142 112 [(0, .ref 0), (1, .int x1)] [.int ((mI m 10 3))] (m, S) (some (.int r0)) (m, S)
    cases h
    exact rret rfl ⟨rfl, rfl, _, _, rfl, rfl, rfl, rfl⟩
  rw [if_neg c11] at h
  by_cases c12 : x1 = 8
  · rw [if_pos c12] at h
    refine rs (t := (113, [(0, .ref 0), (1, .int x1)], [])) rfl (by rw [c12]; exact sw_i (pc := 1) (o := 112) ⟨by decide, by simp⟩ (by decide) (by decide)) ?_
    refine rsn 1 (t := (114, [(0, .ref 0), (1, .int x1)], [.ref 0])) rfl ?_
    refine pgI rfl rfl rfl (hSh.1.k 0 rfl _) ?_
    show RN xs L al (Ev xs L al d) 142 117 [(0, .ref 0), (1, .int x1)] [.int ((mI m 0 1))] (m, S) (some (.int r0)) (m, S)
    cases h
    exact rret rfl ⟨rfl, rfl, _, _, rfl, rfl, rfl, rfl⟩
  rw [if_neg c12] at h
  refine rs (t := (118, [(0, .ref 0), (1, .int x1)], [])) rfl (sw_d (pc := 1) ⟨by decide, by simp⟩ (sw_out (n := 8) (by intro i hi; match i, hi with | 0, _ => exact c4 | 1, _ => exact c5 | 2, _ => exact c6 | 3, _ => exact c7 | 4, _ => exact c8 | 5, _ => exact c9 | 6, _ => exact c10 | 7, _ => exact c11 | 8, _ => exact c12 | i + 9, hi => exact absurd hi (by omega)) (by decide))) ?_
  refine rsn 1 (t := (119, [(0, .ref 0), (1, .int x1)], [.int ((-1))])) rfl ?_
  cases h
  exact rret rfl ⟨rfl, rfl, _, _, rfl, rfl, rfl, rfl⟩
