/-! The class's methods as functions (printed by wip/whole/gen_fun.py). -/
def f_Will_chancesFrom_L17 (N : Nat) (S : St) (x0 : Nat) (x2 : Int32) (x4 : Int32) (m : Mm) (k17 : Int32 → Int32 → Option (Int32)) : Nat → Int32 → Int32 → Option (Int32)
  | 0, _, _ => none
  | n17 + 1, x3, x5 => b1 (f_Will_alts N S x0 x4 m) fun r2 => (if r2 ≤ x5 then k17 x3 x5 else b1 (f_Will_thing N S x0 x4 x5 m) fun r4 => (if r4 = x2 then b1 (f_Will_chance N S x0 x4 x5 m) fun r6 => f_Will_chancesFrom_L17 N S x0 x2 x4 m k17 n17 ((x3 + r6)) ((x5 + 1)) else f_Will_chancesFrom_L17 N S x0 x2 x4 m k17 n17 x3 ((x5 + 1))))
def f_Will_chancesFrom_L5 (N : Nat) (S : St) (x0 : Nat) (x2 : Int32) (m : Mm) (k5 : Int32 → Int32 → Option (Int32)) : Nat → Int32 → Int32 → Option (Int32)
  | 0, _, _ => none
  | n5 + 1, x3, x4 => (if ((mI m x0 1)) ≤ x4 then k5 x3 x4 else f_Will_chancesFrom_L17 N S x0 x2 x4 m (fun (z7_3 : Int32) (z7_5 : Int32) => f_Will_chancesFrom_L5 N S x0 x2 m k5 n5 z7_3 ((x4 + 1))) N x3 0)
def f_Will_chancesFrom (N : Nat) (S : St) (x0 : Nat) (x1 : Int32) (x2 : Int32) (m : Mm) : Option (Int32) := f_Will_chancesFrom_L5 N S x0 x2 m (fun (z14_3 : Int32) (z14_4 : Int32) => some z14_3) N 0 x1
set_option maxRecDepth 20000 in
set_option maxHeartbeats 4000000 in
theorem e_Will_chancesFrom {xs : Nat → Int32} {L : Nat} {al : Bool} (N : Nat) {d : Nat} (hd : 4 ≤ d) {S : St} (hSh : ShC S) {x0 : Nat} {x1 : Int32} {x2 : Int32} (hx0 : x0 ∈ wKl) {m : Mm} {r0 : Int32} (h : f_Will_chancesFrom N S x0 x1 x2 m = some r0) : Ev xs L al d 135 [.ref x0, .int x1, .int x2] (m, S) (some (.int r0)) (m, S) := by
  obtain ⟨d, rfl⟩ : ∃ e, d = e + 1 := ⟨d - 1, by omega⟩
  refine ev_of (by decide) (Nat.le_of_ble_eq_true rfl) ?_
  rw [f_Will_chancesFrom] at h
  show RN xs L al (Ev xs L al d) 135 0 [(0, .ref x0), (1, .int x1), (2, .int x2)] [] (m, S) (some (.int r0)) (m, S)
  refine rsn 4 (t := (5, [(4, .int x1), (3, .int 0), (0, .ref x0), (1, .int x1), (2, .int x2)], [])) rfl ?_
  have ex5 : ∀ (z14_3 : Int32) (z14_4 : Int32), (some z14_3) = some r0 → RN xs L al (Ev xs L al d) 135 63 [(3, .int z14_3)] [] (m, S) (some (.int r0)) (m, S) := by
    intro z14_3 z14_4 h
    try dsimp only at h
    refine rsn 1 (t := (64, [(3, .int z14_3)], [.int z14_3])) rfl ?_
    have h := Option.some.inj h
    subst h
    exact rret rfl ⟨rfl, rfl, _, _, rfl, rfl, rfl, rfl⟩
  have lp5 : ∀ (n : Nat) (y15_3 : Int32) (y15_4 : Int32), (f_Will_chancesFrom_L5 N S x0 x2 m (fun (z14_3 : Int32) (z14_4 : Int32) => some z14_3) n y15_3 y15_4) = some r0 → RN xs L al (Ev xs L al d) 135 5 [(0, .ref x0), (2, .int x2), (3, .int y15_3), (4, .int y15_4)] [] (m, S) (some (.int r0)) (m, S) := by
    intro n
    induction n with
    | zero => intro y15_3 y15_4 h; exact absurd h (by simp [f_Will_chancesFrom_L5])
    | succ n5 ih5 =>
      intro y15_3 y15_4 h
      try dsimp only at h
      rw [f_Will_chancesFrom_L5] at h
      try dsimp only at h
      refine rsn 2 (t := (8, [(0, .ref x0), (2, .int x2), (3, .int y15_3), (4, .int y15_4)], [.ref x0, .int y15_4])) rfl ?_
      refine pgI rfl rfl rfl (hSh.kW hx0 _) ?_
      show RN xs L al (Ev xs L al d) 135 11 [(0, .ref x0), (2, .int x2), (3, .int y15_3), (4, .int y15_4)] [.int ((mI m x0 1)), .int y15_4] (m, S) (some (.int r0)) (m, S)
      by_cases c16 : ((mI m x0 1)) ≤ y15_4
      · rw [if_pos c16] at h
        refine rjt (a := (63, [(0, .ref x0), (2, .int x2), (3, .int y15_3), (4, .int y15_4)], [])) (b := (14, [(0, .ref x0), (2, .int x2), (3, .int y15_3), (4, .int y15_4)], [])) rfl rfl c16 ?_
        exact rsub [(3, .int y15_3)] ⟨rfl, trivial⟩ ⟨rfl, trivial⟩ (ex5 y15_3 y15_4 h)
      · rw [if_neg c16] at h
        refine rjf (a := (63, [(0, .ref x0), (2, .int x2), (3, .int y15_3), (4, .int y15_4)], [])) (b := (14, [(0, .ref x0), (2, .int x2), (3, .int y15_3), (4, .int y15_4)], [])) rfl rfl c16 ?_
        refine rsn 2 (t := (17, [(5, .int 0), (0, .ref x0), (2, .int x2), (3, .int y15_3), (4, .int y15_4)], [])) rfl ?_
        have ex17 : ∀ (z22_3 : Int32) (z22_5 : Int32), (f_Will_chancesFrom_L5 N S x0 x2 m (fun (z14_3 : Int32) (z14_4 : Int32) => some z14_3) n5 z22_3 ((y15_4 + 1))) = some r0 → RN xs L al (Ev xs L al d) 135 57 [(0, .ref x0), (2, .int x2), (3, .int z22_3), (4, .int y15_4)] [] (m, S) (some (.int r0)) (m, S) := by
          intro z22_3 z22_5 h
          try dsimp only at h
          refine rsn 2 (t := (5, [(4, .int ((y15_4 + 1))), (0, .ref x0), (2, .int x2), (3, .int z22_3)], [])) rfl ?_
          exact rsub [(0, .ref x0), (2, .int x2), (3, .int z22_3), (4, .int ((y15_4 + 1)))] ⟨rfl, ⟨rfl, ⟨rfl, ⟨rfl, trivial⟩⟩⟩⟩ ⟨rfl, ⟨rfl, ⟨rfl, ⟨rfl, trivial⟩⟩⟩⟩ (ih5 z22_3 ((y15_4 + 1)) h)
        have lp17 : ∀ (n : Nat) (y23_3 : Int32) (y23_5 : Int32), (f_Will_chancesFrom_L17 N S x0 x2 y15_4 m (fun (z22_3 : Int32) (z22_5 : Int32) => f_Will_chancesFrom_L5 N S x0 x2 m (fun (z14_3 : Int32) (z14_4 : Int32) => some z14_3) n5 z22_3 ((y15_4 + 1))) n y23_3 y23_5) = some r0 → RN xs L al (Ev xs L al d) 135 17 [(0, .ref x0), (2, .int x2), (3, .int y23_3), (4, .int y15_4), (5, .int y23_5)] [] (m, S) (some (.int r0)) (m, S) := by
          intro n
          induction n with
          | zero => intro y23_3 y23_5 h; exact absurd h (by simp [f_Will_chancesFrom_L17])
          | succ n17 ih17 =>
            intro y23_3 y23_5 h
            try dsimp only at h
            rw [f_Will_chancesFrom_L17] at h
            try dsimp only at h
            refine rsn 3 (t := (22, [(0, .ref x0), (2, .int x2), (3, .int y23_3), (4, .int y15_4), (5, .int y23_5)], [.int y15_4, .ref x0, .int y23_5])) rfl ?_
            obtain ⟨r24, g24, h⟩ := b1_some h
            refine rcV 48 x0 [.int y15_4] rfl rfl rfl (hSh.kW hx0 _) (Nat.le_of_ble_eq_true rfl) rfl (e_Will_alts N (by omega) hSh hx0 g24) ?_
            show RN xs L al (Ev xs L al d) 135 25 [(0, .ref x0), (2, .int x2), (3, .int y23_3), (4, .int y15_4), (5, .int y23_5)] [.int r24, .int y23_5] (m, S) (some (.int r0)) (m, S)
            by_cases c25 : r24 ≤ y23_5
            · rw [if_pos c25] at h
              refine rjt (a := (57, [(0, .ref x0), (2, .int x2), (3, .int y23_3), (4, .int y15_4), (5, .int y23_5)], [])) (b := (28, [(0, .ref x0), (2, .int x2), (3, .int y23_3), (4, .int y15_4), (5, .int y23_5)], [])) rfl rfl c25 ?_
              exact rsub [(0, .ref x0), (2, .int x2), (3, .int y23_3), (4, .int y15_4)] ⟨rfl, ⟨rfl, ⟨rfl, ⟨rfl, trivial⟩⟩⟩⟩ ⟨rfl, ⟨rfl, ⟨rfl, ⟨rfl, trivial⟩⟩⟩⟩ (ex17 y23_3 y23_5 h)
            · rw [if_neg c25] at h
              refine rjf (a := (57, [(0, .ref x0), (2, .int x2), (3, .int y23_3), (4, .int y15_4), (5, .int y23_5)], [])) (b := (28, [(0, .ref x0), (2, .int x2), (3, .int y23_3), (4, .int y15_4), (5, .int y23_5)], [])) rfl rfl c25 ?_
              refine rsn 3 (t := (33, [(0, .ref x0), (2, .int x2), (3, .int y23_3), (4, .int y15_4), (5, .int y23_5)], [.int y23_5, .int y15_4, .ref x0])) rfl ?_
              obtain ⟨r26, g26, h⟩ := b1_some h
              refine rcV 64 x0 [.int y15_4, .int y23_5] rfl rfl rfl (hSh.kW hx0 _) (Nat.le_of_ble_eq_true rfl) rfl (e_Will_thing N (by omega) hSh hx0 g26) ?_
              show RN xs L al (Ev xs L al d) 135 36 [(0, .ref x0), (2, .int x2), (3, .int y23_3), (4, .int y15_4), (5, .int y23_5)] [.int r26] (m, S) (some (.int r0)) (m, S)
              refine rsn 1 (t := (37, [(0, .ref x0), (2, .int x2), (3, .int y23_3), (4, .int y15_4), (5, .int y23_5)], [.int x2, .int r26])) rfl ?_
              by_cases c27 : r26 = x2
              · rw [if_pos c27] at h
                refine rjf (a := (51, [(0, .ref x0), (2, .int x2), (3, .int y23_3), (4, .int y15_4), (5, .int y23_5)], [])) (b := (40, [(0, .ref x0), (2, .int x2), (3, .int y23_3), (4, .int y15_4), (5, .int y23_5)], [])) rfl rfl (fun q => q c27) ?_
                refine rsn 4 (t := (46, [(0, .ref x0), (2, .int x2), (3, .int y23_3), (4, .int y15_4), (5, .int y23_5)], [.int y23_5, .int y15_4, .ref x0, .int y23_3])) rfl ?_
                obtain ⟨r28, g28, h⟩ := b1_some h
                refine rcV 60 x0 [.int y15_4, .int y23_5] rfl rfl rfl (hSh.kW hx0 _) (Nat.le_of_ble_eq_true rfl) rfl (e_Will_chance N (by omega) hSh hx0 g28) ?_
                show RN xs L al (Ev xs L al d) 135 49 [(0, .ref x0), (2, .int x2), (3, .int y23_3), (4, .int y15_4), (5, .int y23_5)] [.int r28, .int y23_3] (m, S) (some (.int r0)) (m, S)
                refine rsn 4 (t := (17, [(5, .int ((y23_5 + 1))), (3, .int ((y23_3 + r28))), (0, .ref x0), (2, .int x2), (4, .int y15_4)], [])) rfl ?_
                exact rsub [(0, .ref x0), (2, .int x2), (3, .int ((y23_3 + r28))), (4, .int y15_4), (5, .int ((y23_5 + 1)))] ⟨rfl, ⟨rfl, ⟨rfl, ⟨rfl, ⟨rfl, trivial⟩⟩⟩⟩⟩ ⟨rfl, ⟨rfl, ⟨rfl, ⟨rfl, ⟨rfl, trivial⟩⟩⟩⟩⟩ (ih17 ((y23_3 + r28)) ((y23_5 + 1)) h)
              · rw [if_neg c27] at h
                refine rjt (a := (51, [(0, .ref x0), (2, .int x2), (3, .int y23_3), (4, .int y15_4), (5, .int y23_5)], [])) (b := (40, [(0, .ref x0), (2, .int x2), (3, .int y23_3), (4, .int y15_4), (5, .int y23_5)], [])) rfl rfl c27 ?_
                refine rsn 2 (t := (17, [(5, .int ((y23_5 + 1))), (0, .ref x0), (2, .int x2), (3, .int y23_3), (4, .int y15_4)], [])) rfl ?_
                exact rsub [(0, .ref x0), (2, .int x2), (3, .int y23_3), (4, .int y15_4), (5, .int ((y23_5 + 1)))] ⟨rfl, ⟨rfl, ⟨rfl, ⟨rfl, ⟨rfl, trivial⟩⟩⟩⟩⟩ ⟨rfl, ⟨rfl, ⟨rfl, ⟨rfl, ⟨rfl, trivial⟩⟩⟩⟩⟩ (ih17 y23_3 ((y23_5 + 1)) h)
        exact rsub [(0, .ref x0), (2, .int x2), (3, .int y15_3), (4, .int y15_4), (5, .int 0)] ⟨rfl, ⟨rfl, ⟨rfl, ⟨rfl, ⟨rfl, trivial⟩⟩⟩⟩⟩ ⟨rfl, ⟨rfl, ⟨rfl, ⟨rfl, ⟨rfl, trivial⟩⟩⟩⟩⟩ (lp17 N y15_3 0 h)
  exact rsub [(0, .ref x0), (2, .int x2), (3, .int 0), (4, .int x1)] ⟨rfl, ⟨rfl, ⟨rfl, ⟨rfl, trivial⟩⟩⟩⟩ ⟨rfl, ⟨rfl, ⟨rfl, ⟨rfl, trivial⟩⟩⟩⟩ (lp5 N 0 x1 h)
def f_SC_paper (N : Nat) (S : St) (x1 : Int32) (x2 : Int32) (m : Mm) : Option (Int32) := (if ((mI m 0 6)) = 0 then some ((-1)) else b1 (f_Will_isHeir N S 10 x1 m) fun r2 => (if r2 = 0 then some ((-1)) else (if x2 < 0 then some ((-1)) else (if x2 < 3 then b1 (f_State_dayOf N ((mJ m 0 7))) fun r6 => b1 (f_Will_chancesFrom N S 10 r6 x2 m) fun r7 => b1 (f_Will_worth N S 10 x1 x2 m) fun r8 => some ((r7 * r8)) else some ((-1))))))
set_option maxRecDepth 20000 in
set_option maxHeartbeats 4000000 in
theorem e_SC_paper {xs : Nat → Int32} {L : Nat} {al : Bool} (N : Nat) {d : Nat} (hd : 5 ≤ d) {S : St} (hSh : ShC S) {x1 : Int32} {x2 : Int32} {m : Mm} {r0 : Int32} (h : f_SC_paper N S x1 x2 m = some r0) : Ev xs L al d 134 [.ref 0, .int x1, .int x2] (m, S) (some (.int r0)) (m, S) := by
  obtain ⟨d, rfl⟩ : ∃ e, d = e + 1 := ⟨d - 1, by omega⟩
  refine ev_of (by decide) (Nat.le_of_ble_eq_true rfl) ?_
  rw [f_SC_paper] at h
  show RN xs L al (Ev xs L al d) 134 0 [(0, .ref 0), (1, .int x1), (2, .int x2)] [] (m, S) (some (.int r0)) (m, S)
  refine rsn 1 (t := (1, [(0, .ref 0), (1, .int x1), (2, .int x2)], [.ref 0])) rfl ?_
  refine pgI rfl rfl rfl (hSh.1.k 0 rfl _) ?_
  show RN xs L al (Ev xs L al d) 134 4 [(0, .ref 0), (1, .int x1), (2, .int x2)] [.int ((mI m 0 6))] (m, S) (some (.int r0)) (m, S)
  by_cases c1 : ((mI m 0 6)) = 0
  · rw [if_pos c1] at h
    refine rjt (a := (27, [(0, .ref 0), (1, .int x1), (2, .int x2)], [])) (b := (7, [(0, .ref 0), (1, .int x1), (2, .int x2)], [])) rfl rfl c1 ?_
    refine rsn 1 (t := (28, [(0, .ref 0), (1, .int x1), (2, .int x2)], [.int ((-1))])) rfl ?_
    have h := Option.some.inj h
    subst h
    exact rret rfl ⟨rfl, rfl, _, _, rfl, rfl, rfl, rfl⟩
  · rw [if_neg c1] at h
    refine rjf (a := (27, [(0, .ref 0), (1, .int x1), (2, .int x2)], [])) (b := (7, [(0, .ref 0), (1, .int x1), (2, .int x2)], [])) rfl rfl c1 ?_
    refine rsn 1 (t := (8, [(0, .ref 0), (1, .int x1), (2, .int x2)], [.ref 0])) rfl ?_
    refine rgR rfl rfl rfl (hSh.1.k 0 rfl _) (hSh.1.r 88 rfl _) ?_
    refine rsn 1 (t := (12, [(0, .ref 0), (1, .int x1), (2, .int x2)], [.int x1, .ref 10])) rfl ?_
    obtain ⟨r2, g2, h⟩ := b1_some h
    refine rcV 53 10 [.int x1] rfl rfl rfl (hSh.1.k 10 rfl _) (Nat.le_of_ble_eq_true rfl) rfl (e_Will_isHeir N (by omega) hSh (by decide) g2) ?_
    show RN xs L al (Ev xs L al d) 134 15 [(0, .ref 0), (1, .int x1), (2, .int x2)] [.int r2] (m, S) (some (.int r0)) (m, S)
    by_cases c3 : r2 = 0
    · rw [if_pos c3] at h
      refine rjt (a := (27, [(0, .ref 0), (1, .int x1), (2, .int x2)], [])) (b := (18, [(0, .ref 0), (1, .int x1), (2, .int x2)], [])) rfl rfl c3 ?_
      refine rsn 1 (t := (28, [(0, .ref 0), (1, .int x1), (2, .int x2)], [.int ((-1))])) rfl ?_
      have h := Option.some.inj h
      subst h
      exact rret rfl ⟨rfl, rfl, _, _, rfl, rfl, rfl, rfl⟩
    · rw [if_neg c3] at h
      refine rjf (a := (27, [(0, .ref 0), (1, .int x1), (2, .int x2)], [])) (b := (18, [(0, .ref 0), (1, .int x1), (2, .int x2)], [])) rfl rfl c3 ?_
      refine rsn 1 (t := (19, [(0, .ref 0), (1, .int x1), (2, .int x2)], [.int x2])) rfl ?_
      by_cases c4 : x2 < 0
      · rw [if_pos c4] at h
        refine rjt (a := (27, [(0, .ref 0), (1, .int x1), (2, .int x2)], [])) (b := (22, [(0, .ref 0), (1, .int x1), (2, .int x2)], [])) rfl rfl c4 ?_
        refine rsn 1 (t := (28, [(0, .ref 0), (1, .int x1), (2, .int x2)], [.int ((-1))])) rfl ?_
        have h := Option.some.inj h
        subst h
        exact rret rfl ⟨rfl, rfl, _, _, rfl, rfl, rfl, rfl⟩
      · rw [if_neg c4] at h
        refine rjf (a := (27, [(0, .ref 0), (1, .int x1), (2, .int x2)], [])) (b := (22, [(0, .ref 0), (1, .int x1), (2, .int x2)], [])) rfl rfl c4 ?_
        refine rsn 2 (t := (24, [(0, .ref 0), (1, .int x1), (2, .int x2)], [.int 3, .int x2])) rfl ?_
        by_cases c5 : x2 < 3
        · rw [if_pos c5] at h
          refine rjt (a := (29, [(0, .ref 0), (1, .int x1), (2, .int x2)], [])) (b := (27, [(0, .ref 0), (1, .int x1), (2, .int x2)], [])) rfl rfl c5 ?_
          refine rsn 1 (t := (30, [(0, .ref 0), (1, .int x1), (2, .int x2)], [.ref 0])) rfl ?_
          refine rgR rfl rfl rfl (hSh.1.k 0 rfl _) (hSh.1.r 88 rfl _) ?_
          refine rsn 1 (t := (34, [(0, .ref 0), (1, .int x1), (2, .int x2)], [.ref 0, .ref 10])) rfl ?_
          refine pgJ rfl rfl rfl (hSh.1.k 0 rfl _) ?_
          show RN xs L al (Ev xs L al d) 134 37 [(0, .ref 0), (1, .int x1), (2, .int x2)] [.long ((mJ m 0 7)), .ref 10] (m, S) (some (.int r0)) (m, S)
          obtain ⟨r6, g6, h⟩ := b1_some h
          refine rcS 63 [.long ((mJ m 0 7))] rfl rfl rfl (Nat.le_of_ble_eq_true rfl) rfl (e_State_dayOf N (by omega) g6) ?_
          show RN xs L al (Ev xs L al d) 134 40 [(0, .ref 0), (1, .int x1), (2, .int x2)] [.int r6, .ref 10] (m, S) (some (.int r0)) (m, S)
          refine rsn 1 (t := (41, [(0, .ref 0), (1, .int x1), (2, .int x2)], [.int x2, .int r6, .ref 10])) rfl ?_
          obtain ⟨r7, g7, h⟩ := b1_some h
          refine rcV 135 10 [.int r6, .int x2] rfl rfl rfl (hSh.1.k 10 rfl _) (Nat.le_of_ble_eq_true rfl) rfl (e_Will_chancesFrom N (by omega) hSh (by decide) g7) ?_
          show RN xs L al (Ev xs L al d) 134 44 [(0, .ref 0), (1, .int x1), (2, .int x2)] [.int r7] (m, S) (some (.int r0)) (m, S)
          refine rsn 1 (t := (45, [(0, .ref 0), (1, .int x1), (2, .int x2)], [.ref 0, .int r7])) rfl ?_
          refine rgR rfl rfl rfl (hSh.1.k 0 rfl _) (hSh.1.r 88 rfl _) ?_
          refine rsn 2 (t := (50, [(0, .ref 0), (1, .int x1), (2, .int x2)], [.int x2, .int x1, .ref 10, .int r7])) rfl ?_
          obtain ⟨r8, g8, h⟩ := b1_some h
          refine rcV 56 10 [.int x1, .int x2] rfl rfl rfl (hSh.1.k 10 rfl _) (Nat.le_of_ble_eq_true rfl) rfl (e_Will_worth N (by omega) hSh (by decide) g8) ?_
          show RN xs L al (Ev xs L al d) 134 53 [(0, .ref 0), (1, .int x1), (2, .int x2)] [.int r8, .int r7] (m, S) (some (.int r0)) (m, S)
          refine rsn 1 (t := (54, [(0, .ref 0), (1, .int x1), (2, .int x2)], [.int ((r7 * r8))])) rfl ?_
          have h := Option.some.inj h
          subst h
          exact rret rfl ⟨rfl, rfl, _, _, rfl, rfl, rfl, rfl⟩
        · rw [if_neg c5] at h
          refine rjf (a := (29, [(0, .ref 0), (1, .int x1), (2, .int x2)], [])) (b := (27, [(0, .ref 0), (1, .int x1), (2, .int x2)], [])) rfl rfl c5 ?_
          refine rsn 1 (t := (28, [(0, .ref 0), (1, .int x1), (2, .int x2)], [.int ((-1))])) rfl ?_
          have h := Option.some.inj h
          subst h
          exact rret rfl ⟨rfl, rfl, _, _, rfl, rfl, rfl, rfl⟩
def f_Rows_firstUnlawful_L13 (N : Nat) (S : St) (x3 : Int32) (x4 : Int32) (x7 : Int32) (m : Mm) (k13 : Int64 → Int32 → Option (Int32)) : Nat → Int64 → Int32 → Option (Int32)
  | 0, _, _ => none
  | n13 + 1, x5, x8 => (if ((mI m 10 1)) ≤ x8 then k13 x5 x8 else b1 (f_Rows_digit N x3 ((x8 - x7))) fun r3 => b1 (f_Rows_digit N x4 ((x8 - x7))) fun r4 => b1 (f_Will_thing N S 10 x8 r3 m) fun r5 => b1 (f_Will_passed N S 10 x5 x8 r3 m) fun r6 => (jn (fun (_ : Unit) => (if r5 = ((-1)) then f_Rows_firstUnlawful_L13 N S x3 x4 x7 m k13 n13 r6 ((x8 + 1)) else b1 (f_State_with N r6 r5 r4) fun r8 => f_Rows_firstUnlawful_L13 N S x3 x4 x7 m k13 n13 r8 ((x8 + 1)))) (fun j117 => if r5 = ((-1)) then (if r4 = 0 then j117 () else some ((x8 - x7))) else b1 (f_Will_mayGive N S 10 r6 r4 ((mI m 10 2)) m) fun r10 => (if r10 = 0 then some ((x8 - x7)) else j117 ()))))
def f_Rows_firstUnlawful (N : Nat) (S : St) (x1 : Int64) (x3 : Int32) (x4 : Int32) (m : Mm) : Option (Int32) := b1 (f_State_dayOf N x1) fun r1 => f_Rows_firstUnlawful_L13 N S x3 x4 r1 m (fun (z13_5 : Int64) (z13_8 : Int32) => some ((-1))) N x1 r1
set_option maxRecDepth 20000 in
set_option maxHeartbeats 4000000 in
theorem e_Rows_firstUnlawful {xs : Nat → Int32} {L : Nat} {al : Bool} (N : Nat) {d : Nat} (hd : 5 ≤ d) {S : St} (hSh : ShC S) {x1 : Int64} {x3 : Int32} {x4 : Int32} {m : Mm} {r0 : Int32} (h : f_Rows_firstUnlawful N S x1 x3 x4 m = some r0) : Ev xs L al d 137 [.ref 30, .long x1, .int x3, .int x4] (m, S) (some (.int r0)) (m, S) := by
  obtain ⟨d, rfl⟩ : ∃ e, d = e + 1 := ⟨d - 1, by omega⟩
  refine ev_of (by decide) (Nat.le_of_ble_eq_true rfl) ?_
  rw [f_Rows_firstUnlawful] at h
  show RN xs L al (Ev xs L al d) 137 0 [(0, .ref 30), (1, .long x1), (3, .int x3), (4, .int x4)] [] (m, S) (some (.int r0)) (m, S)
  refine rsn 3 (t := (4, [(5, .long x1), (0, .ref 30), (1, .long x1), (3, .int x3), (4, .int x4)], [.long x1])) rfl ?_
  obtain ⟨r1, g1, h⟩ := b1_some h
  refine rcS 63 [.long x1] rfl rfl rfl (Nat.le_of_ble_eq_true rfl) rfl (e_State_dayOf N (by omega) g1) ?_
  show RN xs L al (Ev xs L al d) 137 7 [(5, .long x1), (0, .ref 30), (1, .long x1), (3, .int x3), (4, .int x4)] [.int r1] (m, S) (some (.int r0)) (m, S)
  refine rsn 3 (t := (13, [(8, .int r1), (7, .int r1), (5, .long x1), (0, .ref 30), (1, .long x1), (3, .int x3), (4, .int x4)], [])) rfl ?_
  have ex13 : ∀ (z13_5 : Int64) (z13_8 : Int32), (some ((-1))) = some r0 → RN xs L al (Ev xs L al d) 137 145 [] [] (m, S) (some (.int r0)) (m, S) := by
    intro z13_5 z13_8 h
    try dsimp only at h
    refine rsn 1 (t := (146, [], [.int ((-1))])) rfl ?_
    have h := Option.some.inj h
    subst h
    exact rret rfl ⟨rfl, rfl, _, _, rfl, rfl, rfl, rfl⟩
  have lp13 : ∀ (n : Nat) (y14_5 : Int64) (y14_8 : Int32), (f_Rows_firstUnlawful_L13 N S x3 x4 r1 m (fun (z13_5 : Int64) (z13_8 : Int32) => some ((-1))) n y14_5 y14_8) = some r0 → RN xs L al (Ev xs L al d) 137 13 [(0, .ref 30), (3, .int x3), (4, .int x4), (5, .long y14_5), (7, .int r1), (8, .int y14_8)] [] (m, S) (some (.int r0)) (m, S) := by
    intro n
    induction n with
    | zero => intro y14_5 y14_8 h; exact absurd h (by simp [f_Rows_firstUnlawful_L13])
    | succ n13 ih13 =>
      intro y14_5 y14_8 h
      try dsimp only at h
      rw [f_Rows_firstUnlawful_L13] at h
      try dsimp only at h
      refine rsn 2 (t := (16, [(0, .ref 30), (3, .int x3), (4, .int x4), (5, .long y14_5), (7, .int r1), (8, .int y14_8)], [.ref 30, .int y14_8])) rfl ?_
      refine rgR rfl rfl rfl (hSh.1.k 30 rfl _) (hSh.1.r 100 rfl _) ?_
      refine pgI rfl rfl rfl (hSh.1.k 10 rfl _) ?_
      show RN xs L al (Ev xs L al d) 137 22 [(0, .ref 30), (3, .int x3), (4, .int x4), (5, .long y14_5), (7, .int r1), (8, .int y14_8)] [.int ((mI m 10 1)), .int y14_8] (m, S) (some (.int r0)) (m, S)
      by_cases c15 : ((mI m 10 1)) ≤ y14_8
      · rw [if_pos c15] at h
        refine rjt (a := (145, [(0, .ref 30), (3, .int x3), (4, .int x4), (5, .long y14_5), (7, .int r1), (8, .int y14_8)], [])) (b := (25, [(0, .ref 30), (3, .int x3), (4, .int x4), (5, .long y14_5), (7, .int r1), (8, .int y14_8)], [])) rfl rfl c15 ?_
        exact rsub [] trivial trivial (ex13 y14_5 y14_8 h)
      · rw [if_neg c15] at h
        refine rjf (a := (145, [(0, .ref 30), (3, .int x3), (4, .int x4), (5, .long y14_5), (7, .int r1), (8, .int y14_8)], [])) (b := (25, [(0, .ref 30), (3, .int x3), (4, .int x4), (5, .long y14_5), (7, .int r1), (8, .int y14_8)], [])) rfl rfl c15 ?_
        refine rsn 4 (t := (31, [(0, .ref 30), (3, .int x3), (4, .int x4), (5, .long y14_5), (7, .int r1), (8, .int y14_8)], [.int ((y14_8 - r1)), .int x3])) rfl ?_
        obtain ⟨r16, g16, h⟩ := b1_some h
        refine rcS 115 [.int x3, .int ((y14_8 - r1))] rfl rfl rfl (Nat.le_of_ble_eq_true rfl) rfl (e_Rows_digit N (by omega) g16) ?_
        show RN xs L al (Ev xs L al d) 137 34 [(0, .ref 30), (3, .int x3), (4, .int x4), (5, .long y14_5), (7, .int r1), (8, .int y14_8)] [.int r16] (m, S) (some (.int r0)) (m, S)
        refine rsn 5 (t := (43, [(9, .int r16), (0, .ref 30), (3, .int x3), (4, .int x4), (5, .long y14_5), (7, .int r1), (8, .int y14_8)], [.int ((y14_8 - r1)), .int x4])) rfl ?_
        obtain ⟨r17, g17, h⟩ := b1_some h
        refine rcS 115 [.int x4, .int ((y14_8 - r1))] rfl rfl rfl (Nat.le_of_ble_eq_true rfl) rfl (e_Rows_digit N (by omega) g17) ?_
        show RN xs L al (Ev xs L al d) 137 46 [(9, .int r16), (0, .ref 30), (3, .int x3), (4, .int x4), (5, .long y14_5), (7, .int r1), (8, .int y14_8)] [.int r17] (m, S) (some (.int r0)) (m, S)
        refine rsn 2 (t := (49, [(10, .int r17), (9, .int r16), (0, .ref 30), (3, .int x3), (4, .int x4), (5, .long y14_5), (7, .int r1), (8, .int y14_8)], [.ref 30])) rfl ?_
        refine rgR rfl rfl rfl (hSh.1.k 30 rfl _) (hSh.1.r 100 rfl _) ?_
        refine rsn 2 (t := (56, [(10, .int r17), (9, .int r16), (0, .ref 30), (3, .int x3), (4, .int x4), (5, .long y14_5), (7, .int r1), (8, .int y14_8)], [.int r16, .int y14_8, .ref 10])) rfl ?_
        obtain ⟨r18, g18, h⟩ := b1_some h
        refine rcV 64 10 [.int y14_8, .int r16] rfl rfl rfl (hSh.1.k 10 rfl _) (Nat.le_of_ble_eq_true rfl) rfl (e_Will_thing N (by omega) hSh (by decide) g18) ?_
        show RN xs L al (Ev xs L al d) 137 59 [(10, .int r17), (9, .int r16), (0, .ref 30), (3, .int x3), (4, .int x4), (5, .long y14_5), (7, .int r1), (8, .int y14_8)] [.int r18] (m, S) (some (.int r0)) (m, S)
        refine rsn 2 (t := (62, [(11, .int r18), (10, .int r17), (9, .int r16), (0, .ref 30), (3, .int x3), (4, .int x4), (5, .long y14_5), (7, .int r1), (8, .int y14_8)], [.ref 30])) rfl ?_
        refine rgR rfl rfl rfl (hSh.1.k 30 rfl _) (hSh.1.r 100 rfl _) ?_
        refine rsn 3 (t := (71, [(11, .int r18), (10, .int r17), (9, .int r16), (0, .ref 30), (3, .int x3), (4, .int x4), (5, .long y14_5), (7, .int r1), (8, .int y14_8)], [.int r16, .int y14_8, .long y14_5, .ref 10])) rfl ?_
        obtain ⟨r19, g19, h⟩ := b1_some h
        refine rcV 65 10 [.long y14_5, .int y14_8, .int r16] rfl rfl rfl (hSh.1.k 10 rfl _) (Nat.le_of_ble_eq_true rfl) rfl (e_Will_passed N (by omega) hSh (by decide) g19) ?_
        show RN xs L al (Ev xs L al d) 137 74 [(11, .int r18), (10, .int r17), (9, .int r16), (0, .ref 30), (3, .int x3), (4, .int x4), (5, .long y14_5), (7, .int r1), (8, .int y14_8)] [.long r19] (m, S) (some (.int r0)) (m, S)
        refine rsn 3 (t := (79, [(5, .long r19), (11, .int r18), (10, .int r17), (9, .int r16), (0, .ref 30), (3, .int x3), (4, .int x4), (7, .int r1), (8, .int y14_8)], [.int ((-1)), .int r18])) rfl ?_
        have jp117 : ∀ (_ : Unit), ((if r18 = ((-1)) then f_Rows_firstUnlawful_L13 N S x3 x4 r1 m (fun (z13_5 : Int64) (z13_8 : Int32) => some ((-1))) n13 r19 ((y14_8 + 1)) else b1 (f_State_with N r19 r18 r17) fun r21 => f_Rows_firstUnlawful_L13 N S x3 x4 r1 m (fun (z13_5 : Int64) (z13_8 : Int32) => some ((-1))) n13 r21 ((y14_8 + 1)))) = some r0 → RN xs L al (Ev xs L al d) 137 117 [(0, .ref 30), (3, .int x3), (4, .int x4), (5, .long r19), (7, .int r1), (8, .int y14_8), (10, .int r17), (11, .int r18)] [] (m, S) (some (.int r0)) (m, S) := by
          intro _ h
          try dsimp only at h
          refine rsn 2 (t := (120, [(0, .ref 30), (3, .int x3), (4, .int x4), (5, .long r19), (7, .int r1), (8, .int y14_8), (10, .int r17), (11, .int r18)], [.int ((-1)), .int r18])) rfl ?_
          by_cases c20 : r18 = ((-1))
          · rw [if_pos c20] at h
            refine rjf (a := (128, [(0, .ref 30), (3, .int x3), (4, .int x4), (5, .long r19), (7, .int r1), (8, .int y14_8), (10, .int r17), (11, .int r18)], [])) (b := (123, [(0, .ref 30), (3, .int x3), (4, .int x4), (5, .long r19), (7, .int r1), (8, .int y14_8), (10, .int r17), (11, .int r18)], [])) rfl rfl (fun q => q c20) ?_
            refine rsn 5 (t := (13, [(8, .int ((y14_8 + 1))), (5, .long r19), (0, .ref 30), (3, .int x3), (4, .int x4), (7, .int r1), (10, .int r17), (11, .int r18)], [])) rfl ?_
            exact rsub [(0, .ref 30), (3, .int x3), (4, .int x4), (5, .long r19), (7, .int r1), (8, .int ((y14_8 + 1)))] ⟨rfl, ⟨rfl, ⟨rfl, ⟨rfl, ⟨rfl, ⟨rfl, trivial⟩⟩⟩⟩⟩⟩ ⟨rfl, ⟨rfl, ⟨rfl, ⟨rfl, ⟨rfl, ⟨rfl, trivial⟩⟩⟩⟩⟩⟩ (ih13 r19 ((y14_8 + 1)) h)
          · rw [if_neg c20] at h
            refine rjt (a := (128, [(0, .ref 30), (3, .int x3), (4, .int x4), (5, .long r19), (7, .int r1), (8, .int y14_8), (10, .int r17), (11, .int r18)], [])) (b := (123, [(0, .ref 30), (3, .int x3), (4, .int x4), (5, .long r19), (7, .int r1), (8, .int y14_8), (10, .int r17), (11, .int r18)], [])) rfl rfl c20 ?_
            refine rsn 3 (t := (134, [(0, .ref 30), (3, .int x3), (4, .int x4), (5, .long r19), (7, .int r1), (8, .int y14_8), (10, .int r17), (11, .int r18)], [.int r17, .int r18, .long r19])) rfl ?_
            obtain ⟨r21, g21, h⟩ := b1_some h
            refine rcS 70 [.long r19, .int r18, .int r17] rfl rfl rfl (Nat.le_of_ble_eq_true rfl) rfl (e_State_with N (by omega) g21) ?_
            show RN xs L al (Ev xs L al d) 137 137 [(0, .ref 30), (3, .int x3), (4, .int x4), (5, .long r19), (7, .int r1), (8, .int y14_8), (10, .int r17), (11, .int r18)] [.long r21] (m, S) (some (.int r0)) (m, S)
            refine rsn 3 (t := (13, [(8, .int ((y14_8 + 1))), (5, .long r21), (0, .ref 30), (3, .int x3), (4, .int x4), (7, .int r1), (10, .int r17), (11, .int r18)], [])) rfl ?_
            exact rsub [(0, .ref 30), (3, .int x3), (4, .int x4), (5, .long r21), (7, .int r1), (8, .int ((y14_8 + 1)))] ⟨rfl, ⟨rfl, ⟨rfl, ⟨rfl, ⟨rfl, ⟨rfl, trivial⟩⟩⟩⟩⟩⟩ ⟨rfl, ⟨rfl, ⟨rfl, ⟨rfl, ⟨rfl, ⟨rfl, trivial⟩⟩⟩⟩⟩⟩ (ih13 r21 ((y14_8 + 1)) h)
        rw [jn] at h
        try dsimp only at h
        by_cases c22 : r18 = ((-1))
        · rw [if_pos c22] at h
          refine rjf (a := (90, [(5, .long r19), (11, .int r18), (10, .int r17), (9, .int r16), (0, .ref 30), (3, .int x3), (4, .int x4), (7, .int r1), (8, .int y14_8)], [])) (b := (82, [(5, .long r19), (11, .int r18), (10, .int r17), (9, .int r16), (0, .ref 30), (3, .int x3), (4, .int x4), (7, .int r1), (8, .int y14_8)], [])) rfl rfl (fun q => q c22) ?_
          refine rsn 1 (t := (84, [(5, .long r19), (11, .int r18), (10, .int r17), (9, .int r16), (0, .ref 30), (3, .int x3), (4, .int x4), (7, .int r1), (8, .int y14_8)], [.int r17])) rfl ?_
          by_cases c25 : r17 = 0
          · rw [if_pos c25] at h
            refine rjt (a := (117, [(5, .long r19), (11, .int r18), (10, .int r17), (9, .int r16), (0, .ref 30), (3, .int x3), (4, .int x4), (7, .int r1), (8, .int y14_8)], [])) (b := (87, [(5, .long r19), (11, .int r18), (10, .int r17), (9, .int r16), (0, .ref 30), (3, .int x3), (4, .int x4), (7, .int r1), (8, .int y14_8)], [])) rfl rfl c25 ?_
            exact rsub [(0, .ref 30), (3, .int x3), (4, .int x4), (5, .long r19), (7, .int r1), (8, .int y14_8), (10, .int r17), (11, .int r18)] ⟨rfl, ⟨rfl, ⟨rfl, ⟨rfl, ⟨rfl, ⟨rfl, ⟨rfl, ⟨rfl, trivial⟩⟩⟩⟩⟩⟩⟩⟩ ⟨rfl, ⟨rfl, ⟨rfl, ⟨rfl, ⟨rfl, ⟨rfl, ⟨rfl, ⟨rfl, trivial⟩⟩⟩⟩⟩⟩⟩⟩ (jp117 () h)
          · rw [if_neg c25] at h
            refine rjf (a := (117, [(5, .long r19), (11, .int r18), (10, .int r17), (9, .int r16), (0, .ref 30), (3, .int x3), (4, .int x4), (7, .int r1), (8, .int y14_8)], [])) (b := (87, [(5, .long r19), (11, .int r18), (10, .int r17), (9, .int r16), (0, .ref 30), (3, .int x3), (4, .int x4), (7, .int r1), (8, .int y14_8)], [])) rfl rfl c25 ?_
            refine rsn 4 (t := (116, [(5, .long r19), (11, .int r18), (10, .int r17), (9, .int r16), (0, .ref 30), (3, .int x3), (4, .int x4), (7, .int r1), (8, .int y14_8)], [.int ((y14_8 - r1))])) rfl ?_
            have h := Option.some.inj h
            subst h
            exact rret rfl ⟨rfl, rfl, _, _, rfl, rfl, rfl, rfl⟩
        · rw [if_neg c22] at h
          refine rjt (a := (90, [(5, .long r19), (11, .int r18), (10, .int r17), (9, .int r16), (0, .ref 30), (3, .int x3), (4, .int x4), (7, .int r1), (8, .int y14_8)], [])) (b := (82, [(5, .long r19), (11, .int r18), (10, .int r17), (9, .int r16), (0, .ref 30), (3, .int x3), (4, .int x4), (7, .int r1), (8, .int y14_8)], [])) rfl rfl c22 ?_
          refine rsn 1 (t := (91, [(5, .long r19), (11, .int r18), (10, .int r17), (9, .int r16), (0, .ref 30), (3, .int x3), (4, .int x4), (7, .int r1), (8, .int y14_8)], [.ref 30])) rfl ?_
          refine rgR rfl rfl rfl (hSh.1.k 30 rfl _) (hSh.1.r 100 rfl _) ?_
          refine rsn 3 (t := (99, [(5, .long r19), (11, .int r18), (10, .int r17), (9, .int r16), (0, .ref 30), (3, .int x3), (4, .int x4), (7, .int r1), (8, .int y14_8)], [.ref 30, .int r17, .long r19, .ref 10])) rfl ?_
          refine rgR rfl rfl rfl (hSh.1.k 30 rfl _) (hSh.1.r 100 rfl _) ?_
          refine pgI rfl rfl rfl (hSh.1.k 10 rfl _) ?_
          show RN xs L al (Ev xs L al d) 137 105 [(5, .long r19), (11, .int r18), (10, .int r17), (9, .int r16), (0, .ref 30), (3, .int x3), (4, .int x4), (7, .int r1), (8, .int y14_8)] [.int ((mI m 10 2)), .int r17, .long r19, .ref 10] (m, S) (some (.int r0)) (m, S)
          obtain ⟨r23, g23, h⟩ := b1_some h
          refine rcV 67 10 [.long r19, .int r17, .int ((mI m 10 2))] rfl rfl rfl (hSh.1.k 10 rfl _) (Nat.le_of_ble_eq_true rfl) rfl (e_Will_mayGive N (by omega) hSh (by decide) g23) ?_
          show RN xs L al (Ev xs L al d) 137 108 [(5, .long r19), (11, .int r18), (10, .int r17), (9, .int r16), (0, .ref 30), (3, .int x3), (4, .int x4), (7, .int r1), (8, .int y14_8)] [.int r23] (m, S) (some (.int r0)) (m, S)
          by_cases c24 : r23 = 0
          · rw [if_pos c24] at h
            refine rjf (a := (117, [(5, .long r19), (11, .int r18), (10, .int r17), (9, .int r16), (0, .ref 30), (3, .int x3), (4, .int x4), (7, .int r1), (8, .int y14_8)], [])) (b := (111, [(5, .long r19), (11, .int r18), (10, .int r17), (9, .int r16), (0, .ref 30), (3, .int x3), (4, .int x4), (7, .int r1), (8, .int y14_8)], [])) rfl rfl (fun q => q c24) ?_
            refine rsn 3 (t := (116, [(5, .long r19), (11, .int r18), (10, .int r17), (9, .int r16), (0, .ref 30), (3, .int x3), (4, .int x4), (7, .int r1), (8, .int y14_8)], [.int ((y14_8 - r1))])) rfl ?_
            have h := Option.some.inj h
            subst h
            exact rret rfl ⟨rfl, rfl, _, _, rfl, rfl, rfl, rfl⟩
          · rw [if_neg c24] at h
            refine rjt (a := (117, [(5, .long r19), (11, .int r18), (10, .int r17), (9, .int r16), (0, .ref 30), (3, .int x3), (4, .int x4), (7, .int r1), (8, .int y14_8)], [])) (b := (111, [(5, .long r19), (11, .int r18), (10, .int r17), (9, .int r16), (0, .ref 30), (3, .int x3), (4, .int x4), (7, .int r1), (8, .int y14_8)], [])) rfl rfl c24 ?_
            exact rsub [(0, .ref 30), (3, .int x3), (4, .int x4), (5, .long r19), (7, .int r1), (8, .int y14_8), (10, .int r17), (11, .int r18)] ⟨rfl, ⟨rfl, ⟨rfl, ⟨rfl, ⟨rfl, ⟨rfl, ⟨rfl, ⟨rfl, trivial⟩⟩⟩⟩⟩⟩⟩⟩ ⟨rfl, ⟨rfl, ⟨rfl, ⟨rfl, ⟨rfl, ⟨rfl, ⟨rfl, ⟨rfl, trivial⟩⟩⟩⟩⟩⟩⟩⟩ (jp117 () h)
  exact rsub [(0, .ref 30), (3, .int x3), (4, .int x4), (5, .long x1), (7, .int r1), (8, .int r1)] ⟨rfl, ⟨rfl, ⟨rfl, ⟨rfl, ⟨rfl, ⟨rfl, trivial⟩⟩⟩⟩⟩⟩ ⟨rfl, ⟨rfl, ⟨rfl, ⟨rfl, ⟨rfl, ⟨rfl, trivial⟩⟩⟩⟩⟩⟩ (lp13 N x1 r1 h)
def f_SC_judge (N : Nat) (S : St) (x1 : Int32) (x2 : Int32) (m : Mm) : Option (Int32) := (if ((mI m 0 6)) = 0 then some 9 else (if ((mI m 0 8)) = ((-1)) then b1 (f_Rows_canBe N S x1 ((mJ m 0 7)) m) fun r3 => (if r3 = 0 then some 9 else b1 (f_Rows_canHoldGifts N S x2 ((mJ m 0 7)) m) fun r5 => (if r5 = 0 then some 9 else b1 (f_Rows_firstUnlawful N S ((mJ m 0 7)) x1 x2 m) fun r7 => some r7)) else some 9))
set_option maxRecDepth 20000 in
set_option maxHeartbeats 4000000 in
theorem e_SC_judge {xs : Nat → Int32} {L : Nat} {al : Bool} (N : Nat) {d : Nat} (hd : 6 ≤ d) {S : St} (hSh : ShC S) {x1 : Int32} {x2 : Int32} {m : Mm} {r0 : Int32} (h : f_SC_judge N S x1 x2 m = some r0) : Ev xs L al d 136 [.ref 0, .int x1, .int x2] (m, S) (some (.int r0)) (m, S) := by
  obtain ⟨d, rfl⟩ : ∃ e, d = e + 1 := ⟨d - 1, by omega⟩
  refine ev_of (by decide) (Nat.le_of_ble_eq_true rfl) ?_
  rw [f_SC_judge] at h
  show RN xs L al (Ev xs L al d) 136 0 [(0, .ref 0), (1, .int x1), (2, .int x2)] [] (m, S) (some (.int r0)) (m, S)
  refine rsn 1 (t := (1, [(0, .ref 0), (1, .int x1), (2, .int x2)], [.ref 0])) rfl ?_
  refine pgI rfl rfl rfl (hSh.1.k 0 rfl _) ?_
  show RN xs L al (Ev xs L al d) 136 4 [(0, .ref 0), (1, .int x1), (2, .int x2)] [.int ((mI m 0 6))] (m, S) (some (.int r0)) (m, S)
  by_cases c1 : ((mI m 0 6)) = 0
  · rw [if_pos c1] at h
    refine rjt (a := (51, [(0, .ref 0), (1, .int x1), (2, .int x2)], [])) (b := (7, [(0, .ref 0), (1, .int x1), (2, .int x2)], [])) rfl rfl c1 ?_
    refine rsn 1 (t := (53, [(0, .ref 0), (1, .int x1), (2, .int x2)], [.int 9])) rfl ?_
    have h := Option.some.inj h
    subst h
    exact rret rfl ⟨rfl, rfl, _, _, rfl, rfl, rfl, rfl⟩
  · rw [if_neg c1] at h
    refine rjf (a := (51, [(0, .ref 0), (1, .int x1), (2, .int x2)], [])) (b := (7, [(0, .ref 0), (1, .int x1), (2, .int x2)], [])) rfl rfl c1 ?_
    refine rsn 1 (t := (8, [(0, .ref 0), (1, .int x1), (2, .int x2)], [.ref 0])) rfl ?_
    refine pgI rfl rfl rfl (hSh.1.k 0 rfl _) ?_
    show RN xs L al (Ev xs L al d) 136 11 [(0, .ref 0), (1, .int x1), (2, .int x2)] [.int ((mI m 0 8))] (m, S) (some (.int r0)) (m, S)
    refine rsn 1 (t := (12, [(0, .ref 0), (1, .int x1), (2, .int x2)], [.int ((-1)), .int ((mI m 0 8))])) rfl ?_
    by_cases c2 : ((mI m 0 8)) = ((-1))
    · rw [if_pos c2] at h
      refine rjf (a := (51, [(0, .ref 0), (1, .int x1), (2, .int x2)], [])) (b := (15, [(0, .ref 0), (1, .int x1), (2, .int x2)], [])) rfl rfl (fun q => q c2) ?_
      refine rsn 1 (t := (16, [(0, .ref 0), (1, .int x1), (2, .int x2)], [.ref 0])) rfl ?_
      refine rgR rfl rfl rfl (hSh.1.k 0 rfl _) (hSh.1.r 89 rfl _) ?_
      refine rgR rfl rfl rfl (hSh.1.k 17 rfl _) (hSh.1.r 94 rfl _) ?_
      refine rsn 2 (t := (24, [(0, .ref 0), (1, .int x1), (2, .int x2)], [.ref 0, .int x1, .ref 30])) rfl ?_
      refine pgJ rfl rfl rfl (hSh.1.k 0 rfl _) ?_
      show RN xs L al (Ev xs L al d) 136 27 [(0, .ref 0), (1, .int x1), (2, .int x2)] [.long ((mJ m 0 7)), .int x1, .ref 30] (m, S) (some (.int r0)) (m, S)
      obtain ⟨r3, g3, h⟩ := b1_some h
      refine rcV 114 30 [.int x1, .long ((mJ m 0 7))] rfl rfl rfl (hSh.1.k 30 rfl _) (Nat.le_of_ble_eq_true rfl) rfl (e_Rows_canBe N (by omega) hSh g3) ?_
      show RN xs L al (Ev xs L al d) 136 30 [(0, .ref 0), (1, .int x1), (2, .int x2)] [.int r3] (m, S) (some (.int r0)) (m, S)
      by_cases c4 : r3 = 0
      · rw [if_pos c4] at h
        refine rjt (a := (51, [(0, .ref 0), (1, .int x1), (2, .int x2)], [])) (b := (33, [(0, .ref 0), (1, .int x1), (2, .int x2)], [])) rfl rfl c4 ?_
        refine rsn 1 (t := (53, [(0, .ref 0), (1, .int x1), (2, .int x2)], [.int 9])) rfl ?_
        have h := Option.some.inj h
        subst h
        exact rret rfl ⟨rfl, rfl, _, _, rfl, rfl, rfl, rfl⟩
      · rw [if_neg c4] at h
        refine rjf (a := (51, [(0, .ref 0), (1, .int x1), (2, .int x2)], [])) (b := (33, [(0, .ref 0), (1, .int x1), (2, .int x2)], [])) rfl rfl c4 ?_
        refine rsn 1 (t := (34, [(0, .ref 0), (1, .int x1), (2, .int x2)], [.ref 0])) rfl ?_
        refine rgR rfl rfl rfl (hSh.1.k 0 rfl _) (hSh.1.r 89 rfl _) ?_
        refine rgR rfl rfl rfl (hSh.1.k 17 rfl _) (hSh.1.r 94 rfl _) ?_
        refine rsn 2 (t := (42, [(0, .ref 0), (1, .int x1), (2, .int x2)], [.ref 0, .int x2, .ref 30])) rfl ?_
        refine pgJ rfl rfl rfl (hSh.1.k 0 rfl _) ?_
        show RN xs L al (Ev xs L al d) 136 45 [(0, .ref 0), (1, .int x1), (2, .int x2)] [.long ((mJ m 0 7)), .int x2, .ref 30] (m, S) (some (.int r0)) (m, S)
        obtain ⟨r5, g5, h⟩ := b1_some h
        refine rcV 116 30 [.int x2, .long ((mJ m 0 7))] rfl rfl rfl (hSh.1.k 30 rfl _) (Nat.le_of_ble_eq_true rfl) rfl (e_Rows_canHoldGifts N (by omega) hSh g5) ?_
        show RN xs L al (Ev xs L al d) 136 48 [(0, .ref 0), (1, .int x1), (2, .int x2)] [.int r5] (m, S) (some (.int r0)) (m, S)
        by_cases c6 : r5 = 0
        · rw [if_pos c6] at h
          refine rjf (a := (54, [(0, .ref 0), (1, .int x1), (2, .int x2)], [])) (b := (51, [(0, .ref 0), (1, .int x1), (2, .int x2)], [])) rfl rfl (fun q => q c6) ?_
          refine rsn 1 (t := (53, [(0, .ref 0), (1, .int x1), (2, .int x2)], [.int 9])) rfl ?_
          have h := Option.some.inj h
          subst h
          exact rret rfl ⟨rfl, rfl, _, _, rfl, rfl, rfl, rfl⟩
        · rw [if_neg c6] at h
          refine rjt (a := (54, [(0, .ref 0), (1, .int x1), (2, .int x2)], [])) (b := (51, [(0, .ref 0), (1, .int x1), (2, .int x2)], [])) rfl rfl c6 ?_
          refine rsn 1 (t := (55, [(0, .ref 0), (1, .int x1), (2, .int x2)], [.ref 0])) rfl ?_
          refine rgR rfl rfl rfl (hSh.1.k 0 rfl _) (hSh.1.r 89 rfl _) ?_
          refine rgR rfl rfl rfl (hSh.1.k 17 rfl _) (hSh.1.r 94 rfl _) ?_
          refine rsn 1 (t := (62, [(0, .ref 0), (1, .int x1), (2, .int x2)], [.ref 0, .ref 30])) rfl ?_
          refine pgJ rfl rfl rfl (hSh.1.k 0 rfl _) ?_
          show RN xs L al (Ev xs L al d) 136 65 [(0, .ref 0), (1, .int x1), (2, .int x2)] [.long ((mJ m 0 7)), .ref 30] (m, S) (some (.int r0)) (m, S)
          refine rsn 2 (t := (67, [(0, .ref 0), (1, .int x1), (2, .int x2)], [.int x2, .int x1, .long ((mJ m 0 7)), .ref 30])) rfl ?_
          obtain ⟨r7, g7, h⟩ := b1_some h
          refine rcV 137 30 [.long ((mJ m 0 7)), .int x1, .int x2] rfl rfl rfl (hSh.1.k 30 rfl _) (Nat.le_of_ble_eq_true rfl) rfl (e_Rows_firstUnlawful N (by omega) hSh g7) ?_
          show RN xs L al (Ev xs L al d) 136 70 [(0, .ref 0), (1, .int x1), (2, .int x2)] [.int r7] (m, S) (some (.int r0)) (m, S)
          have h := Option.some.inj h
          subst h
          exact rret rfl ⟨rfl, rfl, _, _, rfl, rfl, rfl, rfl⟩
    · rw [if_neg c2] at h
      refine rjt (a := (51, [(0, .ref 0), (1, .int x1), (2, .int x2)], [])) (b := (15, [(0, .ref 0), (1, .int x1), (2, .int x2)], [])) rfl rfl c2 ?_
      refine rsn 1 (t := (53, [(0, .ref 0), (1, .int x1), (2, .int x2)], [.int 9])) rfl ?_
      have h := Option.some.inj h
      subst h
      exact rret rfl ⟨rfl, rfl, _, _, rfl, rfl, rfl, rfl⟩
def f_Rows_stateAfter_L13 (N : Nat) (S : St) (x3 : Int32) (x4 : Int32) (x7 : Int32) (m : Mm) (k13 : Int64 → Int32 → Option (Int64)) : Nat → Int64 → Int32 → Option (Int64)
  | 0, _, _ => none
  | n13 + 1, x5, x8 => (if ((mI m 10 1)) ≤ x8 then k13 x5 x8 else b1 (f_Rows_digit N x3 ((x8 - x7))) fun r3 => b1 (f_Will_thing N S 10 x8 r3 m) fun r4 => b1 (f_Will_passed N S 10 x5 x8 r3 m) fun r5 => (if r4 = ((-1)) then f_Rows_stateAfter_L13 N S x3 x4 x7 m k13 n13 r5 ((x8 + 1)) else b1 (f_Rows_digit N x4 ((x8 - x7))) fun r7 => b1 (f_State_with N r5 r4 r7) fun r8 => f_Rows_stateAfter_L13 N S x3 x4 x7 m k13 n13 r8 ((x8 + 1))))
def f_Rows_stateAfter (N : Nat) (S : St) (x1 : Int64) (x3 : Int32) (x4 : Int32) (m : Mm) : Option (Int64) := b1 (f_State_dayOf N x1) fun r1 => f_Rows_stateAfter_L13 N S x3 x4 r1 m (fun (z9_5 : Int64) (z9_8 : Int32) => some z9_5) N x1 r1
set_option maxRecDepth 20000 in
set_option maxHeartbeats 4000000 in
theorem e_Rows_stateAfter {xs : Nat → Int32} {L : Nat} {al : Bool} (N : Nat) {d : Nat} (hd : 4 ≤ d) {S : St} (hSh : ShC S) {x1 : Int64} {x3 : Int32} {x4 : Int32} {m : Mm} {r0 : Int64} (h : f_Rows_stateAfter N S x1 x3 x4 m = some r0) : Ev xs L al d 139 [.ref 30, .long x1, .int x3, .int x4] (m, S) (some (.long r0)) (m, S) := by
  obtain ⟨d, rfl⟩ : ∃ e, d = e + 1 := ⟨d - 1, by omega⟩
  refine ev_of (by decide) (Nat.le_of_ble_eq_true rfl) ?_
  rw [f_Rows_stateAfter] at h
  show RN xs L al (Ev xs L al d) 139 0 [(0, .ref 30), (1, .long x1), (3, .int x3), (4, .int x4)] [] (m, S) (some (.long r0)) (m, S)
  refine rsn 3 (t := (4, [(5, .long x1), (0, .ref 30), (1, .long x1), (3, .int x3), (4, .int x4)], [.long x1])) rfl ?_
  obtain ⟨r1, g1, h⟩ := b1_some h
  refine rcS 63 [.long x1] rfl rfl rfl (Nat.le_of_ble_eq_true rfl) rfl (e_State_dayOf N (by omega) g1) ?_
  show RN xs L al (Ev xs L al d) 139 7 [(5, .long x1), (0, .ref 30), (1, .long x1), (3, .int x3), (4, .int x4)] [.int r1] (m, S) (some (.long r0)) (m, S)
  refine rsn 3 (t := (13, [(8, .int r1), (7, .int r1), (5, .long x1), (0, .ref 30), (1, .long x1), (3, .int x3), (4, .int x4)], [])) rfl ?_
  have ex13 : ∀ (z9_5 : Int64) (z9_8 : Int32), (some z9_5) = some r0 → RN xs L al (Ev xs L al d) 139 100 [(5, .long z9_5)] [] (m, S) (some (.long r0)) (m, S) := by
    intro z9_5 z9_8 h
    try dsimp only at h
    refine rsn 1 (t := (102, [(5, .long z9_5)], [.long z9_5])) rfl ?_
    have h := Option.some.inj h
    subst h
    exact rret rfl ⟨rfl, rfl, _, rfl, rfl, rfl⟩
  have lp13 : ∀ (n : Nat) (y10_5 : Int64) (y10_8 : Int32), (f_Rows_stateAfter_L13 N S x3 x4 r1 m (fun (z9_5 : Int64) (z9_8 : Int32) => some z9_5) n y10_5 y10_8) = some r0 → RN xs L al (Ev xs L al d) 139 13 [(0, .ref 30), (3, .int x3), (4, .int x4), (5, .long y10_5), (7, .int r1), (8, .int y10_8)] [] (m, S) (some (.long r0)) (m, S) := by
    intro n
    induction n with
    | zero => intro y10_5 y10_8 h; exact absurd h (by simp [f_Rows_stateAfter_L13])
    | succ n13 ih13 =>
      intro y10_5 y10_8 h
      try dsimp only at h
      rw [f_Rows_stateAfter_L13] at h
      try dsimp only at h
      refine rsn 2 (t := (16, [(0, .ref 30), (3, .int x3), (4, .int x4), (5, .long y10_5), (7, .int r1), (8, .int y10_8)], [.ref 30, .int y10_8])) rfl ?_
      refine rgR rfl rfl rfl (hSh.1.k 30 rfl _) (hSh.1.r 100 rfl _) ?_
      refine pgI rfl rfl rfl (hSh.1.k 10 rfl _) ?_
      show RN xs L al (Ev xs L al d) 139 22 [(0, .ref 30), (3, .int x3), (4, .int x4), (5, .long y10_5), (7, .int r1), (8, .int y10_8)] [.int ((mI m 10 1)), .int y10_8] (m, S) (some (.long r0)) (m, S)
      by_cases c11 : ((mI m 10 1)) ≤ y10_8
      · rw [if_pos c11] at h
        refine rjt (a := (100, [(0, .ref 30), (3, .int x3), (4, .int x4), (5, .long y10_5), (7, .int r1), (8, .int y10_8)], [])) (b := (25, [(0, .ref 30), (3, .int x3), (4, .int x4), (5, .long y10_5), (7, .int r1), (8, .int y10_8)], [])) rfl rfl c11 ?_
        exact rsub [(5, .long y10_5)] ⟨rfl, trivial⟩ ⟨rfl, trivial⟩ (ex13 y10_5 y10_8 h)
      · rw [if_neg c11] at h
        refine rjf (a := (100, [(0, .ref 30), (3, .int x3), (4, .int x4), (5, .long y10_5), (7, .int r1), (8, .int y10_8)], [])) (b := (25, [(0, .ref 30), (3, .int x3), (4, .int x4), (5, .long y10_5), (7, .int r1), (8, .int y10_8)], [])) rfl rfl c11 ?_
        refine rsn 4 (t := (31, [(0, .ref 30), (3, .int x3), (4, .int x4), (5, .long y10_5), (7, .int r1), (8, .int y10_8)], [.int ((y10_8 - r1)), .int x3])) rfl ?_
        obtain ⟨r12, g12, h⟩ := b1_some h
        refine rcS 115 [.int x3, .int ((y10_8 - r1))] rfl rfl rfl (Nat.le_of_ble_eq_true rfl) rfl (e_Rows_digit N (by omega) g12) ?_
        show RN xs L al (Ev xs L al d) 139 34 [(0, .ref 30), (3, .int x3), (4, .int x4), (5, .long y10_5), (7, .int r1), (8, .int y10_8)] [.int r12] (m, S) (some (.long r0)) (m, S)
        refine rsn 2 (t := (37, [(9, .int r12), (0, .ref 30), (3, .int x3), (4, .int x4), (5, .long y10_5), (7, .int r1), (8, .int y10_8)], [.ref 30])) rfl ?_
        refine rgR rfl rfl rfl (hSh.1.k 30 rfl _) (hSh.1.r 100 rfl _) ?_
        refine rsn 2 (t := (44, [(9, .int r12), (0, .ref 30), (3, .int x3), (4, .int x4), (5, .long y10_5), (7, .int r1), (8, .int y10_8)], [.int r12, .int y10_8, .ref 10])) rfl ?_
        obtain ⟨r13, g13, h⟩ := b1_some h
        refine rcV 64 10 [.int y10_8, .int r12] rfl rfl rfl (hSh.1.k 10 rfl _) (Nat.le_of_ble_eq_true rfl) rfl (e_Will_thing N (by omega) hSh (by decide) g13) ?_
        show RN xs L al (Ev xs L al d) 139 47 [(9, .int r12), (0, .ref 30), (3, .int x3), (4, .int x4), (5, .long y10_5), (7, .int r1), (8, .int y10_8)] [.int r13] (m, S) (some (.long r0)) (m, S)
        refine rsn 2 (t := (50, [(10, .int r13), (9, .int r12), (0, .ref 30), (3, .int x3), (4, .int x4), (5, .long y10_5), (7, .int r1), (8, .int y10_8)], [.ref 30])) rfl ?_
        refine rgR rfl rfl rfl (hSh.1.k 30 rfl _) (hSh.1.r 100 rfl _) ?_
        refine rsn 3 (t := (59, [(10, .int r13), (9, .int r12), (0, .ref 30), (3, .int x3), (4, .int x4), (5, .long y10_5), (7, .int r1), (8, .int y10_8)], [.int r12, .int y10_8, .long y10_5, .ref 10])) rfl ?_
        obtain ⟨r14, g14, h⟩ := b1_some h
        refine rcV 65 10 [.long y10_5, .int y10_8, .int r12] rfl rfl rfl (hSh.1.k 10 rfl _) (Nat.le_of_ble_eq_true rfl) rfl (e_Will_passed N (by omega) hSh (by decide) g14) ?_
        show RN xs L al (Ev xs L al d) 139 62 [(10, .int r13), (9, .int r12), (0, .ref 30), (3, .int x3), (4, .int x4), (5, .long y10_5), (7, .int r1), (8, .int y10_8)] [.long r14] (m, S) (some (.long r0)) (m, S)
        refine rsn 3 (t := (67, [(5, .long r14), (10, .int r13), (9, .int r12), (0, .ref 30), (3, .int x3), (4, .int x4), (7, .int r1), (8, .int y10_8)], [.int ((-1)), .int r13])) rfl ?_
        by_cases c15 : r13 = ((-1))
        · rw [if_pos c15] at h
          refine rjf (a := (75, [(5, .long r14), (10, .int r13), (9, .int r12), (0, .ref 30), (3, .int x3), (4, .int x4), (7, .int r1), (8, .int y10_8)], [])) (b := (70, [(5, .long r14), (10, .int r13), (9, .int r12), (0, .ref 30), (3, .int x3), (4, .int x4), (7, .int r1), (8, .int y10_8)], [])) rfl rfl (fun q => q c15) ?_
          refine rsn 5 (t := (13, [(8, .int ((y10_8 + 1))), (5, .long r14), (10, .int r13), (9, .int r12), (0, .ref 30), (3, .int x3), (4, .int x4), (7, .int r1)], [])) rfl ?_
          exact rsub [(0, .ref 30), (3, .int x3), (4, .int x4), (5, .long r14), (7, .int r1), (8, .int ((y10_8 + 1)))] ⟨rfl, ⟨rfl, ⟨rfl, ⟨rfl, ⟨rfl, ⟨rfl, trivial⟩⟩⟩⟩⟩⟩ ⟨rfl, ⟨rfl, ⟨rfl, ⟨rfl, ⟨rfl, ⟨rfl, trivial⟩⟩⟩⟩⟩⟩ (ih13 r14 ((y10_8 + 1)) h)
        · rw [if_neg c15] at h
          refine rjt (a := (75, [(5, .long r14), (10, .int r13), (9, .int r12), (0, .ref 30), (3, .int x3), (4, .int x4), (7, .int r1), (8, .int y10_8)], [])) (b := (70, [(5, .long r14), (10, .int r13), (9, .int r12), (0, .ref 30), (3, .int x3), (4, .int x4), (7, .int r1), (8, .int y10_8)], [])) rfl rfl c15 ?_
          refine rsn 6 (t := (86, [(5, .long r14), (10, .int r13), (9, .int r12), (0, .ref 30), (3, .int x3), (4, .int x4), (7, .int r1), (8, .int y10_8)], [.int ((y10_8 - r1)), .int x4, .int r13, .long r14])) rfl ?_
          obtain ⟨r16, g16, h⟩ := b1_some h
          refine rcS 115 [.int x4, .int ((y10_8 - r1))] rfl rfl rfl (Nat.le_of_ble_eq_true rfl) rfl (e_Rows_digit N (by omega) g16) ?_
          show RN xs L al (Ev xs L al d) 139 89 [(5, .long r14), (10, .int r13), (9, .int r12), (0, .ref 30), (3, .int x3), (4, .int x4), (7, .int r1), (8, .int y10_8)] [.int r16, .int r13, .long r14] (m, S) (some (.long r0)) (m, S)
          obtain ⟨r17, g17, h⟩ := b1_some h
          refine rcS 70 [.long r14, .int r13, .int r16] rfl rfl rfl (Nat.le_of_ble_eq_true rfl) rfl (e_State_with N (by omega) g17) ?_
          show RN xs L al (Ev xs L al d) 139 92 [(5, .long r14), (10, .int r13), (9, .int r12), (0, .ref 30), (3, .int x3), (4, .int x4), (7, .int r1), (8, .int y10_8)] [.long r17] (m, S) (some (.long r0)) (m, S)
          refine rsn 3 (t := (13, [(8, .int ((y10_8 + 1))), (5, .long r17), (10, .int r13), (9, .int r12), (0, .ref 30), (3, .int x3), (4, .int x4), (7, .int r1)], [])) rfl ?_
          exact rsub [(0, .ref 30), (3, .int x3), (4, .int x4), (5, .long r17), (7, .int r1), (8, .int ((y10_8 + 1)))] ⟨rfl, ⟨rfl, ⟨rfl, ⟨rfl, ⟨rfl, ⟨rfl, trivial⟩⟩⟩⟩⟩⟩ ⟨rfl, ⟨rfl, ⟨rfl, ⟨rfl, ⟨rfl, ⟨rfl, trivial⟩⟩⟩⟩⟩⟩ (ih13 r17 ((y10_8 + 1)) h)
  exact rsub [(0, .ref 30), (3, .int x3), (4, .int x4), (5, .long x1), (7, .int r1), (8, .int r1)] ⟨rfl, ⟨rfl, ⟨rfl, ⟨rfl, ⟨rfl, ⟨rfl, trivial⟩⟩⟩⟩⟩⟩ ⟨rfl, ⟨rfl, ⟨rfl, ⟨rfl, ⟨rfl, ⟨rfl, trivial⟩⟩⟩⟩⟩⟩ (lp13 N x1 r1 h)
def f_SC_image (N : Nat) (S : St) (x1 : Int32) (m : Mm) : Option (Int32 × Mm) := (if ((mI m 0 6)) = 0 then some (0, m) else (if x1 < 0 then some (0, m) else (if x1 < 4 then ck (ix x1 4) (ck (ix x1 4) (ck (ix x1 4) (some (1, (vX (vY (vX m 98 x1.toNatClampNeg ((vp_nar .boolean 1))) 99 x1.toNatClampNeg ((mJ m 0 7))) 100 x1.toNatClampNeg ((mI m 0 8))))))) else some (0, m))))
set_option maxRecDepth 20000 in
set_option maxHeartbeats 4000000 in
theorem e_SC_image {xs : Nat → Int32} {L : Nat} {al : Bool} (N : Nat) {d : Nat} (hd : 1 ≤ d) {S : St} (hSh : ShC S) {x1 : Int32} {m : Mm} {r0 : Int32} {mf : Mm} (h : f_SC_image N S x1 m = some (r0, mf)) : Ev xs L al d 140 [.ref 0, .int x1] (m, S) (some (.int r0)) (mf, S) := by
  obtain ⟨d, rfl⟩ : ∃ e, d = e + 1 := ⟨d - 1, by omega⟩
  refine ev_of (by decide) (Nat.le_of_ble_eq_true rfl) ?_
  rw [f_SC_image] at h
  show RN xs L al (Ev xs L al d) 140 0 [(0, .ref 0), (1, .int x1)] [] (m, S) (some (.int r0)) (mf, S)
  refine rsn 1 (t := (1, [(0, .ref 0), (1, .int x1)], [.ref 0])) rfl ?_
  refine pgI rfl rfl rfl (hSh.1.k 0 rfl _) ?_
  show RN xs L al (Ev xs L al d) 140 4 [(0, .ref 0), (1, .int x1)] [.int ((mI m 0 6))] (m, S) (some (.int r0)) (mf, S)
  by_cases c1 : ((mI m 0 6)) = 0
  · rw [if_pos c1] at h
    refine rjt (a := (16, [(0, .ref 0), (1, .int x1)], [])) (b := (7, [(0, .ref 0), (1, .int x1)], [])) rfl rfl c1 ?_
    refine rsn 1 (t := (17, [(0, .ref 0), (1, .int x1)], [.int 0])) rfl ?_
    obtain ⟨h, h2⟩ := Prod.mk.inj (Option.some.inj h)
    subst h
    subst h2
    exact rret rfl ⟨rfl, rfl, _, _, rfl, rfl, rfl, rfl⟩
  · rw [if_neg c1] at h
    refine rjf (a := (16, [(0, .ref 0), (1, .int x1)], [])) (b := (7, [(0, .ref 0), (1, .int x1)], [])) rfl rfl c1 ?_
    refine rsn 1 (t := (8, [(0, .ref 0), (1, .int x1)], [.int x1])) rfl ?_
    by_cases c2 : x1 < 0
    · rw [if_pos c2] at h
      refine rjt (a := (16, [(0, .ref 0), (1, .int x1)], [])) (b := (11, [(0, .ref 0), (1, .int x1)], [])) rfl rfl c2 ?_
      refine rsn 1 (t := (17, [(0, .ref 0), (1, .int x1)], [.int 0])) rfl ?_
      obtain ⟨h, h2⟩ := Prod.mk.inj (Option.some.inj h)
      subst h
      subst h2
      exact rret rfl ⟨rfl, rfl, _, _, rfl, rfl, rfl, rfl⟩
    · rw [if_neg c2] at h
      refine rjf (a := (16, [(0, .ref 0), (1, .int x1)], [])) (b := (11, [(0, .ref 0), (1, .int x1)], [])) rfl rfl c2 ?_
      refine rsn 2 (t := (13, [(0, .ref 0), (1, .int x1)], [.int 4, .int x1])) rfl ?_
      by_cases c3 : x1 < 4
      · rw [if_pos c3] at h
        refine rjt (a := (18, [(0, .ref 0), (1, .int x1)], [])) (b := (16, [(0, .ref 0), (1, .int x1)], [])) rfl rfl c3 ?_
        refine rsn 1 (t := (19, [(0, .ref 0), (1, .int x1)], [.ref 0])) rfl ?_
        refine rgR rfl rfl rfl (hSh.1.k 0 rfl _) (hSh.1.r 90 rfl _) ?_
        refine rsn 2 (t := (24, [(0, .ref 0), (1, .int x1)], [.int 1, .int x1, .ref 98])) rfl ?_
        obtain ⟨c4, h⟩ := ck_some h
        refine psZ rfl (hSh.1.k 98 rfl _) (hSh.1.l 26 rfl _) c4 ?_
        refine rsn 1 (t := (26, [(0, .ref 0), (1, .int x1)], [.ref 0])) rfl ?_
        refine rgR rfl rfl rfl (hSh.1.k 0 rfl _) (hSh.1.r 91 rfl _) ?_
        refine rsn 2 (t := (31, [(0, .ref 0), (1, .int x1)], [.ref 0, .int x1, .ref 99])) rfl ?_
        refine pgJ rfl rfl rfl (hSh.1.k 0 rfl _) ?_
        show RN xs L al (Ev xs L al d) 140 34 [(0, .ref 0), (1, .int x1)] [.long ((mJ m 0 7)), .int x1, .ref 99] ((vX m 98 x1.toNatClampNeg ((vp_nar .boolean 1))), S) (some (.int r0)) (mf, S)
        obtain ⟨c5, h⟩ := ck_some h
        refine psJ rfl (hSh.1.k 99 rfl _) (hSh.1.l 27 rfl _) c5 ?_
        refine rsn 1 (t := (36, [(0, .ref 0), (1, .int x1)], [.ref 0])) rfl ?_
        refine rgR rfl rfl rfl (hSh.1.k 0 rfl _) (hSh.1.r 92 rfl _) ?_
        refine rsn 2 (t := (41, [(0, .ref 0), (1, .int x1)], [.ref 0, .int x1, .ref 100])) rfl ?_
        refine pgI rfl rfl rfl (hSh.1.k 0 rfl _) ?_
        show RN xs L al (Ev xs L al d) 140 44 [(0, .ref 0), (1, .int x1)] [.int ((mI m 0 8)), .int x1, .ref 100] ((vY (vX m 98 x1.toNatClampNeg ((vp_nar .boolean 1))) 99 x1.toNatClampNeg ((mJ m 0 7))), S) (some (.int r0)) (mf, S)
        obtain ⟨c6, h⟩ := ck_some h
        refine psI rfl (hSh.1.k 100 rfl _) (hSh.1.l 28 rfl _) c6 ?_
        refine rsn 1 (t := (46, [(0, .ref 0), (1, .int x1)], [.int 1])) rfl ?_
        obtain ⟨h, h2⟩ := Prod.mk.inj (Option.some.inj h)
        subst h
        subst h2
        exact rret rfl ⟨rfl, rfl, _, _, rfl, rfl, rfl, rfl⟩
      · rw [if_neg c3] at h
        refine rjf (a := (18, [(0, .ref 0), (1, .int x1)], [])) (b := (16, [(0, .ref 0), (1, .int x1)], [])) rfl rfl c3 ?_
        refine rsn 1 (t := (17, [(0, .ref 0), (1, .int x1)], [.int 0])) rfl ?_
        obtain ⟨h, h2⟩ := Prod.mk.inj (Option.some.inj h)
        subst h
        subst h2
        exact rret rfl ⟨rfl, rfl, _, _, rfl, rfl, rfl, rfl⟩
def f_SC_on (N : Nat) (S : St) (x1 : Int32) (m : Mm) : Option (Int32 × Mm) := (if x1 < 0 then some (0, m) else (if 4 ≤ x1 then some (0, m) else ck (ix x1 4) ((if ((mX m 98 x1.toNatClampNeg)) = 0 then some (0, m) else ck (ix x1 4) (ck (ix x1 4) (some (1, (vI (vJ m 0 7 ((mYy m 99 x1.toNatClampNeg))) 0 8 ((mX m 100 x1.toNatClampNeg))))))))))
set_option maxRecDepth 20000 in
set_option maxHeartbeats 4000000 in
theorem e_SC_on {xs : Nat → Int32} {L : Nat} {al : Bool} (N : Nat) {d : Nat} (hd : 1 ≤ d) {S : St} (hSh : ShC S) {x1 : Int32} {m : Mm} {r0 : Int32} {mf : Mm} (h : f_SC_on N S x1 m = some (r0, mf)) : Ev xs L al d 141 [.ref 0, .int x1] (m, S) (some (.int r0)) (mf, S) := by
  obtain ⟨d, rfl⟩ : ∃ e, d = e + 1 := ⟨d - 1, by omega⟩
  refine ev_of (by decide) (Nat.le_of_ble_eq_true rfl) ?_
  rw [f_SC_on] at h
  show RN xs L al (Ev xs L al d) 141 0 [(0, .ref 0), (1, .int x1)] [] (m, S) (some (.int r0)) (mf, S)
  refine rsn 1 (t := (1, [(0, .ref 0), (1, .int x1)], [.int x1])) rfl ?_
  by_cases c1 : x1 < 0
  · rw [if_pos c1] at h
    refine rjt (a := (18, [(0, .ref 0), (1, .int x1)], [])) (b := (4, [(0, .ref 0), (1, .int x1)], [])) rfl rfl c1 ?_
    refine rsn 1 (t := (19, [(0, .ref 0), (1, .int x1)], [.int 0])) rfl ?_
    obtain ⟨h, h2⟩ := Prod.mk.inj (Option.some.inj h)
    subst h
    subst h2
    exact rret rfl ⟨rfl, rfl, _, _, rfl, rfl, rfl, rfl⟩
  · rw [if_neg c1] at h
    refine rjf (a := (18, [(0, .ref 0), (1, .int x1)], [])) (b := (4, [(0, .ref 0), (1, .int x1)], [])) rfl rfl c1 ?_
    refine rsn 2 (t := (6, [(0, .ref 0), (1, .int x1)], [.int 4, .int x1])) rfl ?_
    by_cases c2 : 4 ≤ x1
    · rw [if_pos c2] at h
      refine rjt (a := (18, [(0, .ref 0), (1, .int x1)], [])) (b := (9, [(0, .ref 0), (1, .int x1)], [])) rfl rfl c2 ?_
      refine rsn 1 (t := (19, [(0, .ref 0), (1, .int x1)], [.int 0])) rfl ?_
      obtain ⟨h, h2⟩ := Prod.mk.inj (Option.some.inj h)
      subst h
      subst h2
      exact rret rfl ⟨rfl, rfl, _, _, rfl, rfl, rfl, rfl⟩
    · rw [if_neg c2] at h
      refine rjf (a := (18, [(0, .ref 0), (1, .int x1)], [])) (b := (9, [(0, .ref 0), (1, .int x1)], [])) rfl rfl c2 ?_
      refine rsn 1 (t := (10, [(0, .ref 0), (1, .int x1)], [.ref 0])) rfl ?_
      refine rgR rfl rfl rfl (hSh.1.k 0 rfl _) (hSh.1.r 90 rfl _) ?_
      refine rsn 1 (t := (14, [(0, .ref 0), (1, .int x1)], [.int x1, .ref 98])) rfl ?_
      obtain ⟨c3, h⟩ := ck_some h
      refine pxB rfl (Or.inr (hSh.1.k 98 rfl _)) (hSh.1.l 26 rfl _) c3 ?_
      show RN xs L al (Ev xs L al d) 141 15 [(0, .ref 0), (1, .int x1)] [.int ((mX m 98 x1.toNatClampNeg))] (m, S) (some (.int r0)) (mf, S)
      by_cases c4 : ((mX m 98 x1.toNatClampNeg)) = 0
      · rw [if_pos c4] at h
        refine rjf (a := (20, [(0, .ref 0), (1, .int x1)], [])) (b := (18, [(0, .ref 0), (1, .int x1)], [])) rfl rfl (fun q => q c4) ?_
        refine rsn 1 (t := (19, [(0, .ref 0), (1, .int x1)], [.int 0])) rfl ?_
        obtain ⟨h, h2⟩ := Prod.mk.inj (Option.some.inj h)
        subst h
        subst h2
        exact rret rfl ⟨rfl, rfl, _, _, rfl, rfl, rfl, rfl⟩
      · rw [if_neg c4] at h
        refine rjt (a := (20, [(0, .ref 0), (1, .int x1)], [])) (b := (18, [(0, .ref 0), (1, .int x1)], [])) rfl rfl c4 ?_
        refine rsn 2 (t := (22, [(0, .ref 0), (1, .int x1)], [.ref 0, .ref 0])) rfl ?_
        refine rgR rfl rfl rfl (hSh.1.k 0 rfl _) (hSh.1.r 91 rfl _) ?_
        refine rsn 1 (t := (26, [(0, .ref 0), (1, .int x1)], [.int x1, .ref 99, .ref 0])) rfl ?_
        obtain ⟨c5, h⟩ := ck_some h
        refine pxJ rfl (hSh.1.k 99 rfl _) (hSh.1.l 27 rfl _) c5 ?_
        show RN xs L al (Ev xs L al d) 141 27 [(0, .ref 0), (1, .int x1)] [.long ((mYy m 99 x1.toNatClampNeg)), .ref 0] (m, S) (some (.int r0)) (mf, S)
        refine ppJ rfl rfl rfl rfl (hSh.1.k 0 rfl _) ?_
        refine rsn 2 (t := (32, [(0, .ref 0), (1, .int x1)], [.ref 0, .ref 0])) rfl ?_
        refine rgR rfl rfl rfl (hSh.1.k 0 rfl _) (hSh.1.r 92 rfl _) ?_
        refine rsn 1 (t := (36, [(0, .ref 0), (1, .int x1)], [.int x1, .ref 100, .ref 0])) rfl ?_
        obtain ⟨c6, h⟩ := ck_some h
        refine pxI rfl (hSh.1.k 100 rfl _) (hSh.1.l 28 rfl _) c6 ?_
        show RN xs L al (Ev xs L al d) 141 37 [(0, .ref 0), (1, .int x1)] [.int ((mX m 100 x1.toNatClampNeg)), .ref 0] ((vJ m 0 7 ((mYy m 99 x1.toNatClampNeg))), S) (some (.int r0)) (mf, S)
        refine ppI rfl rfl rfl rfl (hSh.1.k 0 rfl _) ?_
        refine rsn 1 (t := (41, [(0, .ref 0), (1, .int x1)], [.int 1])) rfl ?_
        obtain ⟨h, h2⟩ := Prod.mk.inj (Option.some.inj h)
        subst h
        subst h2
        exact rret rfl ⟨rfl, rfl, _, _, rfl, rfl, rfl, rfl⟩
def f_SC_count (N : Nat) (S : St) (x1 : Int32) (m : Mm) : Option (Int32) := (if x1 = 0 then some ((mI m 10 0)) else (if x1 = 1 then some ((mI m 10 1)) else (if x1 = 2 then b1 (f_State_dayOf N ((mJ m 0 7))) fun r1 => some r1 else (if x1 = 3 then b1 (f_State_cameOf N ((mJ m 0 7))) fun r2 => some r2 else (if x1 = 4 then b1 (f_State_heldOf N ((mJ m 0 7))) fun r3 => some r3 else (if x1 = 5 then some ((mI m 0 8)) else (if x1 = 6 then some ((mI m 10 2)) else (if x1 = 7 then some ((mI m 10 3)) else (if x1 = 8 then some ((mI m 0 1)) else some ((-1)))))))))))
set_option maxRecDepth 20000 in
set_option maxHeartbeats 4000000 in
theorem e_SC_count {xs : Nat → Int32} {L : Nat} {al : Bool} (N : Nat) {d : Nat} (hd : 4 ≤ d) {S : St} (hSh : ShC S) {x1 : Int32} {m : Mm} {r0 : Int32} (h : f_SC_count N S x1 m = some r0) : Ev xs L al d 142 [.ref 0, .int x1] (m, S) (some (.int r0)) (m, S) := by
  obtain ⟨d, rfl⟩ : ∃ e, d = e + 1 := ⟨d - 1, by omega⟩
  refine ev_of (by decide) (Nat.le_of_ble_eq_true rfl) ?_
  rw [f_SC_count] at h
  show RN xs L al (Ev xs L al d) 142 0 [(0, .ref 0), (1, .int x1)] [] (m, S) (some (.int r0)) (m, S)
  refine rsn 1 (t := (1, [(0, .ref 0), (1, .int x1)], [.int x1])) rfl ?_
  by_cases c4 : x1 = 0
  · rw [if_pos c4] at h
    refine rs (t := (52, [(0, .ref 0), (1, .int x1)], [])) rfl (by rw [c4]; exact sw_i (pc := 1) (o := 51) ⟨by decide, by simp⟩ (by decide) (by decide)) ?_
    refine rsn 1 (t := (53, [(0, .ref 0), (1, .int x1)], [.ref 0])) rfl ?_
    refine rgR rfl rfl rfl (hSh.1.k 0 rfl _) (hSh.1.r 88 rfl _) ?_
    refine pgI rfl rfl rfl (hSh.1.k 10 rfl _) ?_
    show RN xs L al (Ev xs L al d) 142 59 [(0, .ref 0), (1, .int x1)] [.int ((mI m 10 0))] (m, S) (some (.int r0)) (m, S)
    have h := Option.some.inj h
    subst h
    exact rret rfl ⟨rfl, rfl, _, _, rfl, rfl, rfl, rfl⟩
  rw [if_neg c4] at h
  by_cases c5 : x1 = 1
  · rw [if_pos c5] at h
    refine rs (t := (60, [(0, .ref 0), (1, .int x1)], [])) rfl (by rw [c5]; exact sw_i (pc := 1) (o := 59) ⟨by decide, by simp⟩ (by decide) (by decide)) ?_
    refine rsn 1 (t := (61, [(0, .ref 0), (1, .int x1)], [.ref 0])) rfl ?_
    refine rgR rfl rfl rfl (hSh.1.k 0 rfl _) (hSh.1.r 88 rfl _) ?_
    refine pgI rfl rfl rfl (hSh.1.k 10 rfl _) ?_
    show RN xs L al (Ev xs L al d) 142 67 [(0, .ref 0), (1, .int x1)] [.int ((mI m 10 1))] (m, S) (some (.int r0)) (m, S)
    have h := Option.some.inj h
    subst h
    exact rret rfl ⟨rfl, rfl, _, _, rfl, rfl, rfl, rfl⟩
  rw [if_neg c5] at h
  by_cases c6 : x1 = 2
  · rw [if_pos c6] at h
    refine rs (t := (68, [(0, .ref 0), (1, .int x1)], [])) rfl (by rw [c6]; exact sw_i (pc := 1) (o := 67) ⟨by decide, by simp⟩ (by decide) (by decide)) ?_
    refine rsn 1 (t := (69, [(0, .ref 0), (1, .int x1)], [.ref 0])) rfl ?_
    refine pgJ rfl rfl rfl (hSh.1.k 0 rfl _) ?_
    show RN xs L al (Ev xs L al d) 142 72 [(0, .ref 0), (1, .int x1)] [.long ((mJ m 0 7))] (m, S) (some (.int r0)) (m, S)
    obtain ⟨r1, g1, h⟩ := b1_some h
    refine rcS 63 [.long ((mJ m 0 7))] rfl rfl rfl (Nat.le_of_ble_eq_true rfl) rfl (e_State_dayOf N (by omega) g1) ?_
    show RN xs L al (Ev xs L al d) 142 75 [(0, .ref 0), (1, .int x1)] [.int r1] (m, S) (some (.int r0)) (m, S)
    have h := Option.some.inj h
    subst h
    exact rret rfl ⟨rfl, rfl, _, _, rfl, rfl, rfl, rfl⟩
  rw [if_neg c6] at h
  by_cases c7 : x1 = 3
  · rw [if_pos c7] at h
    refine rs (t := (76, [(0, .ref 0), (1, .int x1)], [])) rfl (by rw [c7]; exact sw_i (pc := 1) (o := 75) ⟨by decide, by simp⟩ (by decide) (by decide)) ?_
    refine rsn 1 (t := (77, [(0, .ref 0), (1, .int x1)], [.ref 0])) rfl ?_
    refine pgJ rfl rfl rfl (hSh.1.k 0 rfl _) ?_
    show RN xs L al (Ev xs L al d) 142 80 [(0, .ref 0), (1, .int x1)] [.long ((mJ m 0 7))] (m, S) (some (.int r0)) (m, S)
    obtain ⟨r2, g2, h⟩ := b1_some h
    refine rcS 55 [.long ((mJ m 0 7))] rfl rfl rfl (Nat.le_of_ble_eq_true rfl) rfl (e_State_cameOf N (by omega) g2) ?_
    show RN xs L al (Ev xs L al d) 142 83 [(0, .ref 0), (1, .int x1)] [.int r2] (m, S) (some (.int r0)) (m, S)
    have h := Option.some.inj h
    subst h
    exact rret rfl ⟨rfl, rfl, _, _, rfl, rfl, rfl, rfl⟩
  rw [if_neg c7] at h
  by_cases c8 : x1 = 4
  · rw [if_pos c8] at h
    refine rs (t := (84, [(0, .ref 0), (1, .int x1)], [])) rfl (by rw [c8]; exact sw_i (pc := 1) (o := 83) ⟨by decide, by simp⟩ (by decide) (by decide)) ?_
    refine rsn 1 (t := (85, [(0, .ref 0), (1, .int x1)], [.ref 0])) rfl ?_
    refine pgJ rfl rfl rfl (hSh.1.k 0 rfl _) ?_
    show RN xs L al (Ev xs L al d) 142 88 [(0, .ref 0), (1, .int x1)] [.long ((mJ m 0 7))] (m, S) (some (.int r0)) (m, S)
    obtain ⟨r3, g3, h⟩ := b1_some h
    refine rcS 68 [.long ((mJ m 0 7))] rfl rfl rfl (Nat.le_of_ble_eq_true rfl) rfl (e_State_heldOf N (by omega) g3) ?_
    show RN xs L al (Ev xs L al d) 142 91 [(0, .ref 0), (1, .int x1)] [.int r3] (m, S) (some (.int r0)) (m, S)
    have h := Option.some.inj h
    subst h
    exact rret rfl ⟨rfl, rfl, _, _, rfl, rfl, rfl, rfl⟩
  rw [if_neg c8] at h
  by_cases c9 : x1 = 5
  · rw [if_pos c9] at h
    refine rs (t := (92, [(0, .ref 0), (1, .int x1)], [])) rfl (by rw [c9]; exact sw_i (pc := 1) (o := 91) ⟨by decide, by simp⟩ (by decide) (by decide)) ?_
    refine rsn 1 (t := (93, [(0, .ref 0), (1, .int x1)], [.ref 0])) rfl ?_
    refine pgI rfl rfl rfl (hSh.1.k 0 rfl _) ?_
    show RN xs L al (Ev xs L al d) 142 96 [(0, .ref 0), (1, .int x1)] [.int ((mI m 0 8))] (m, S) (some (.int r0)) (m, S)
    have h := Option.some.inj h
    subst h
    exact rret rfl ⟨rfl, rfl, _, _, rfl, rfl, rfl, rfl⟩
  rw [if_neg c9] at h
  by_cases c10 : x1 = 6
  · rw [if_pos c10] at h
    refine rs (t := (97, [(0, .ref 0), (1, .int x1)], [])) rfl (by rw [c10]; exact sw_i (pc := 1) (o := 96) ⟨by decide, by simp⟩ (by decide) (by decide)) ?_
    refine rsn 1 (t := (98, [(0, .ref 0), (1, .int x1)], [.ref 0])) rfl ?_
    refine rgR rfl rfl rfl (hSh.1.k 0 rfl _) (hSh.1.r 88 rfl _) ?_
    refine pgI rfl rfl rfl (hSh.1.k 10 rfl _) ?_
    show RN xs L al (Ev xs L al d) 142 104 [(0, .ref 0), (1, .int x1)] [.int ((mI m 10 2))] (m, S) (some (.int r0)) (m, S)
    have h := Option.some.inj h
    subst h
    exact rret rfl ⟨rfl, rfl, _, _, rfl, rfl, rfl, rfl⟩
  rw [if_neg c10] at h
  by_cases c11 : x1 = 7
  · rw [if_pos c11] at h
    refine rs (t := (105, [(0, .ref 0), (1, .int x1)], [])) rfl (by rw [c11]; exact sw_i (pc := 1) (o := 104) ⟨by decide, by simp⟩ (by decide) (by decide)) ?_
    refine rsn 1 (t := (106, [(0, .ref 0), (1, .int x1)], [.ref 0])) rfl ?_
    refine rgR rfl rfl rfl (hSh.1.k 0 rfl _) (hSh.1.r 88 rfl _) ?_
    refine pgI rfl rfl rfl (hSh.1.k 10 rfl _) ?_
    show RN xs L al (Ev xs L al d) 142 112 [(0, .ref 0), (1, .int x1)] [.int ((mI m 10 3))] (m, S) (some (.int r0)) (m, S)
    have h := Option.some.inj h
    subst h
    exact rret rfl ⟨rfl, rfl, _, _, rfl, rfl, rfl, rfl⟩
  rw [if_neg c11] at h
  by_cases c12 : x1 = 8
  · rw [if_pos c12] at h
    refine rs (t := (113, [(0, .ref 0), (1, .int x1)], [])) rfl (by rw [c12]; exact sw_i (pc := 1) (o := 112) ⟨by decide, by simp⟩ (by decide) (by decide)) ?_
    refine rsn 1 (t := (114, [(0, .ref 0), (1, .int x1)], [.ref 0])) rfl ?_
    refine pgI rfl rfl rfl (hSh.1.k 0 rfl _) ?_
    show RN xs L al (Ev xs L al d) 142 117 [(0, .ref 0), (1, .int x1)] [.int ((mI m 0 1))] (m, S) (some (.int r0)) (m, S)
    have h := Option.some.inj h
    subst h
    exact rret rfl ⟨rfl, rfl, _, _, rfl, rfl, rfl, rfl⟩
  rw [if_neg c12] at h
  refine rs (t := (118, [(0, .ref 0), (1, .int x1)], [])) rfl (sw_d (pc := 1) ⟨by decide, by simp⟩ (sw_out (n := 8) (by intro i hi; match i, hi with | 0, _ => exact c4 | 1, _ => exact c5 | 2, _ => exact c6 | 3, _ => exact c7 | 4, _ => exact c8 | 5, _ => exact c9 | 6, _ => exact c10 | 7, _ => exact c11 | 8, _ => exact c12 | i + 9, hi => exact absurd hi (by omega)) (by decide))) ?_
  refine rsn 1 (t := (119, [(0, .ref 0), (1, .int x1)], [.int ((-1))])) rfl ?_
  have h := Option.some.inj h
  subst h
  exact rret rfl ⟨rfl, rfl, _, _, rfl, rfl, rfl, rfl⟩
