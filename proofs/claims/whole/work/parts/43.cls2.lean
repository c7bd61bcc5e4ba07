/-! The class's methods as functions (printed by wip/whole/gen_fun.py). -/
def f_SC_canLookAhead (N : Nat) (S : St) (x1 : Int32) (m : Mm) : Option (Int32) := (if ((mI m 0 6)) = 0 then some 0 else b1 (f_SC_isGoal N x1) fun r2 => (if r2 = 0 then some 0 else (if ((mI m 0 8)) = ((-1)) then some 1 else some 0)))
set_option maxRecDepth 20000 in
set_option maxHeartbeats 4000000 in
theorem e_SC_canLookAhead {xs : Nat → Int32} {L : Nat} {al : Bool} (N : Nat) {d : Nat} (hd : 2 ≤ d) {S : St} (hSh : ShC S) {x1 : Int32} {m : Mm} {r0 : Int32} (h : f_SC_canLookAhead N S x1 m = some r0) : Ev xs L al d 73 [.ref 0, .int x1] (m, S) (some (.int r0)) (m, S) := by
  obtain ⟨d, rfl⟩ : ∃ e, d = e + 1 := ⟨d - 1, by omega⟩
  refine ev_of (by decide) (Nat.le_of_ble_eq_true rfl) ?_
  rw [f_SC_canLookAhead] at h
  show RN xs L al (Ev xs L al d) 73 0 [(0, .ref 0), (1, .int x1)] [] (m, S) (some (.int r0)) (m, S)
  refine rsn 1 (t := (1, [(0, .ref 0), (1, .int x1)], [.ref 0])) rfl ?_
  refine pgI rfl rfl rfl (hSh.1.k 0 rfl _) ?_
  show RN xs L al (Ev xs L al d) 73 4 [(0, .ref 0), (1, .int x1)] [.int ((mI m 0 6))] (m, S) (some (.int r0)) (m, S)
  by_cases c1 : ((mI m 0 6)) = 0
  · rw [if_pos c1] at h
    refine rjt (a := (26, [(0, .ref 0), (1, .int x1)], [])) (b := (7, [(0, .ref 0), (1, .int x1)], [])) rfl rfl c1 ?_
    refine rsn 1 (t := (27, [(0, .ref 0), (1, .int x1)], [.int 0])) rfl ?_
    have h := Option.some.inj h
    subst h
    exact rret rfl ⟨rfl, rfl, _, _, rfl, rfl, rfl, rfl⟩
  · rw [if_neg c1] at h
    refine rjf (a := (26, [(0, .ref 0), (1, .int x1)], [])) (b := (7, [(0, .ref 0), (1, .int x1)], [])) rfl rfl c1 ?_
    refine rsn 1 (t := (8, [(0, .ref 0), (1, .int x1)], [.int x1])) rfl ?_
    obtain ⟨r2, g2, h⟩ := b1_some h
    refine rcS 74 [.int x1] rfl rfl rfl (Nat.le_of_ble_eq_true rfl) rfl (e_SC_isGoal N (by omega) g2) ?_
    show RN xs L al (Ev xs L al d) 73 11 [(0, .ref 0), (1, .int x1)] [.int r2] (m, S) (some (.int r0)) (m, S)
    by_cases c3 : r2 = 0
    · rw [if_pos c3] at h
      refine rjt (a := (26, [(0, .ref 0), (1, .int x1)], [])) (b := (14, [(0, .ref 0), (1, .int x1)], [])) rfl rfl c3 ?_
      refine rsn 1 (t := (27, [(0, .ref 0), (1, .int x1)], [.int 0])) rfl ?_
      have h := Option.some.inj h
      subst h
      exact rret rfl ⟨rfl, rfl, _, _, rfl, rfl, rfl, rfl⟩
    · rw [if_neg c3] at h
      refine rjf (a := (26, [(0, .ref 0), (1, .int x1)], [])) (b := (14, [(0, .ref 0), (1, .int x1)], [])) rfl rfl c3 ?_
      refine rsn 1 (t := (15, [(0, .ref 0), (1, .int x1)], [.ref 0])) rfl ?_
      refine pgI rfl rfl rfl (hSh.1.k 0 rfl _) ?_
      show RN xs L al (Ev xs L al d) 73 18 [(0, .ref 0), (1, .int x1)] [.int ((mI m 0 8))] (m, S) (some (.int r0)) (m, S)
      refine rsn 1 (t := (19, [(0, .ref 0), (1, .int x1)], [.int ((-1)), .int ((mI m 0 8))])) rfl ?_
      by_cases c4 : ((mI m 0 8)) = ((-1))
      · rw [if_pos c4] at h
        refine rjf (a := (26, [(0, .ref 0), (1, .int x1)], [])) (b := (22, [(0, .ref 0), (1, .int x1)], [])) rfl rfl (fun q => q c4) ?_
        refine rsn 2 (t := (27, [(0, .ref 0), (1, .int x1)], [.int 1])) rfl ?_
        have h := Option.some.inj h
        subst h
        exact rret rfl ⟨rfl, rfl, _, _, rfl, rfl, rfl, rfl⟩
      · rw [if_neg c4] at h
        refine rjt (a := (26, [(0, .ref 0), (1, .int x1)], [])) (b := (22, [(0, .ref 0), (1, .int x1)], [])) rfl rfl c4 ?_
        refine rsn 1 (t := (27, [(0, .ref 0), (1, .int x1)], [.int 0])) rfl ?_
        have h := Option.some.inj h
        subst h
        exact rret rfl ⟨rfl, rfl, _, _, rfl, rfl, rfl, rfl⟩
def f_SC_daysToCome (N : Nat) (S : St) (m : Mm) : Option (Int32) := b1 (f_State_dayOf N ((mJ m 0 7))) fun r1 => some ((((mI m 10 1)) - r1))
set_option maxRecDepth 20000 in
set_option maxHeartbeats 4000000 in
theorem e_SC_daysToCome {xs : Nat → Int32} {L : Nat} {al : Bool} (N : Nat) {d : Nat} (hd : 2 ≤ d) {S : St} (hSh : ShC S) {m : Mm} {r0 : Int32} (h : f_SC_daysToCome N S m = some r0) : Ev xs L al d 75 [.ref 0] (m, S) (some (.int r0)) (m, S) := by
  obtain ⟨d, rfl⟩ : ∃ e, d = e + 1 := ⟨d - 1, by omega⟩
  refine ev_of (by decide) (Nat.le_of_ble_eq_true rfl) ?_
  rw [f_SC_daysToCome] at h
  show RN xs L al (Ev xs L al d) 75 0 [(0, .ref 0)] [] (m, S) (some (.int r0)) (m, S)
  refine rsn 1 (t := (1, [(0, .ref 0)], [.ref 0])) rfl ?_
  refine rgR rfl rfl rfl (hSh.1.k 0 rfl _) (hSh.1.r 88 rfl _) ?_
  refine pgI rfl rfl rfl (hSh.1.k 10 rfl _) ?_
  show RN xs L al (Ev xs L al d) 75 7 [(0, .ref 0)] [.int ((mI m 10 1))] (m, S) (some (.int r0)) (m, S)
  refine rsn 1 (t := (8, [(0, .ref 0)], [.ref 0, .int ((mI m 10 1))])) rfl ?_
  refine pgJ rfl rfl rfl (hSh.1.k 0 rfl _) ?_
  show RN xs L al (Ev xs L al d) 75 11 [(0, .ref 0)] [.long ((mJ m 0 7)), .int ((mI m 10 1))] (m, S) (some (.int r0)) (m, S)
  obtain ⟨r1, g1, h⟩ := b1_some h
  refine rcS 63 [.long ((mJ m 0 7))] rfl rfl rfl (Nat.le_of_ble_eq_true rfl) rfl (e_State_dayOf N (by omega) g1) ?_
  show RN xs L al (Ev xs L al d) 75 14 [(0, .ref 0)] [.int r1, .int ((mI m 10 1))] (m, S) (some (.int r0)) (m, S)
  refine rsn 1 (t := (15, [(0, .ref 0)], [.int ((((mI m 10 1)) - r1))])) rfl ?_
  have h := Option.some.inj h
  subst h
  exact rret rfl ⟨rfl, rfl, _, _, rfl, rfl, rfl, rfl⟩
def f_Ranks_endPlaces (N : Nat) (S : St) (m : Mm) : Option (Int32) := ck (ix ((((mI m 18 11)) + 1)) 8) (ck (ix ((mI m 18 11)) 8) (some ((((((mX m 26 (((((mI m 18 11)) + 1)).toNatClampNeg))) - ((mX m 26 (((mI m 18 11)).toNatClampNeg))))) * ((mI m 18 10))))))
set_option maxRecDepth 20000 in
set_option maxHeartbeats 4000000 in
theorem e_Ranks_endPlaces {xs : Nat → Int32} {L : Nat} {al : Bool} (N : Nat) {d : Nat} (hd : 1 ≤ d) {S : St} (hSh : ShC S) {m : Mm} {r0 : Int32} (h : f_Ranks_endPlaces N S m = some r0) : Ev xs L al d 77 [.ref 18] (m, S) (some (.int r0)) (m, S) := by
  obtain ⟨d, rfl⟩ : ∃ e, d = e + 1 := ⟨d - 1, by omega⟩
  refine ev_of (by decide) (Nat.le_of_ble_eq_true rfl) ?_
  rw [f_Ranks_endPlaces] at h
  show RN xs L al (Ev xs L al d) 77 0 [(0, .ref 18)] [] (m, S) (some (.int r0)) (m, S)
  refine rsn 1 (t := (1, [(0, .ref 18)], [.ref 18])) rfl ?_
  refine rgR rfl rfl rfl (hSh.1.k 18 rfl _) (hSh.1.r 19 rfl _) ?_
  refine rsn 1 (t := (5, [(0, .ref 18)], [.ref 18, .ref 26])) rfl ?_
  refine pgI rfl rfl rfl (hSh.1.k 18 rfl _) ?_
  show RN xs L al (Ev xs L al d) 77 8 [(0, .ref 18)] [.int ((mI m 18 11)), .ref 26] (m, S) (some (.int r0)) (m, S)
  refine rsn 2 (t := (10, [(0, .ref 18)], [.int ((((mI m 18 11)) + 1)), .ref 26])) rfl ?_
  obtain ⟨c1, h⟩ := ck_some h
  refine pxI rfl (hSh.1.k 26 rfl _) (hSh.1.l 20 rfl _) c1 ?_
  show RN xs L al (Ev xs L al d) 77 11 [(0, .ref 18)] [.int ((mX m 26 (((((mI m 18 11)) + 1)).toNatClampNeg)))] (m, S) (some (.int r0)) (m, S)
  refine rsn 1 (t := (12, [(0, .ref 18)], [.ref 18, .int ((mX m 26 (((((mI m 18 11)) + 1)).toNatClampNeg)))])) rfl ?_
  refine rgR rfl rfl rfl (hSh.1.k 18 rfl _) (hSh.1.r 19 rfl _) ?_
  refine rsn 1 (t := (16, [(0, .ref 18)], [.ref 18, .ref 26, .int ((mX m 26 (((((mI m 18 11)) + 1)).toNatClampNeg)))])) rfl ?_
  refine pgI rfl rfl rfl (hSh.1.k 18 rfl _) ?_
  show RN xs L al (Ev xs L al d) 77 19 [(0, .ref 18)] [.int ((mI m 18 11)), .ref 26, .int ((mX m 26 (((((mI m 18 11)) + 1)).toNatClampNeg)))] (m, S) (some (.int r0)) (m, S)
  obtain ⟨c2, h⟩ := ck_some h
  refine pxI rfl (hSh.1.k 26 rfl _) (hSh.1.l 20 rfl _) c2 ?_
  show RN xs L al (Ev xs L al d) 77 20 [(0, .ref 18)] [.int ((mX m 26 (((mI m 18 11)).toNatClampNeg))), .int ((mX m 26 (((((mI m 18 11)) + 1)).toNatClampNeg)))] (m, S) (some (.int r0)) (m, S)
  refine rsn 2 (t := (22, [(0, .ref 18)], [.ref 18, .int ((((mX m 26 (((((mI m 18 11)) + 1)).toNatClampNeg))) - ((mX m 26 (((mI m 18 11)).toNatClampNeg)))))])) rfl ?_
  refine pgI rfl rfl rfl (hSh.1.k 18 rfl _) ?_
  show RN xs L al (Ev xs L al d) 77 25 [(0, .ref 18)] [.int ((mI m 18 10)), .int ((((mX m 26 (((((mI m 18 11)) + 1)).toNatClampNeg))) - ((mX m 26 (((mI m 18 11)).toNatClampNeg)))))] (m, S) (some (.int r0)) (m, S)
  refine rsn 1 (t := (26, [(0, .ref 18)], [.int ((((((mX m 26 (((((mI m 18 11)) + 1)).toNatClampNeg))) - ((mX m 26 (((mI m 18 11)).toNatClampNeg))))) * ((mI m 18 10))))])) rfl ?_
  have h := Option.some.inj h
  subst h
  exact rret rfl ⟨rfl, rfl, _, _, rfl, rfl, rfl, rfl⟩
def f_Arrays_fill2_L6 (N : Nat) (S : St) (x0 : Nat) (x1 : Int64) (x4 : Int32) (k6 : Int32 → Mm → Option (Mm)) : Nat → Int32 → Mm → Option (Mm)
  | 0, _, _ => none
  | n6 + 1, x3, m => (if x4 ≤ x3 then k6 x3 m else ck (ix x3 (S.2.2.1 x0)) (f_Arrays_fill2_L6 N S x0 x1 x4 k6 n6 ((x3 + 1)) ((vY m x0 x3.toNatClampNeg x1))))
def f_Arrays_fill2 (N : Nat) (S : St) (x0 : Nat) (x1 : Int64) (m : Mm) : Option (Mm) := f_Arrays_fill2_L6 N S x0 x1 ((Int32.ofNat ((S.2.2.1 x0)))) (fun (z3_3 : Int32) (m3 : Mm) => some m3) N 0 m
set_option maxRecDepth 20000 in
set_option maxHeartbeats 4000000 in
theorem e_Arrays_fill2 {xs : Nat → Int32} {L : Nat} {al : Bool} (N : Nat) {d : Nat} (hd : 1 ≤ d) {S : St} (hSh : ShC S) {x0 : Nat} {x1 : Int64} (hx0 : ∀ m : Mm, Kd (m, S) x0 13) {m : Mm} {mf : Mm} (h : f_Arrays_fill2 N S x0 x1 m = some mf) : Ev xs L al d 79 [.ref x0, .long x1] (m, S) none (mf, S) := by
  obtain ⟨d, rfl⟩ : ∃ e, d = e + 1 := ⟨d - 1, by omega⟩
  refine ev_of (by decide) (Nat.le_of_ble_eq_true rfl) ?_
  rw [f_Arrays_fill2] at h
  show RN xs L al (Ev xs L al d) 79 0 [(0, .ref x0), (1, .long x1)] [] (m, S) none (mf, S)
  refine rsn 3 (t := (3, [(3, .int 0), (0, .ref x0), (1, .long x1)], [.ref x0])) rfl ?_
  refine rxL rfl (hx0 _) (by decide) rfl ?_
  show RN xs L al (Ev xs L al d) 79 4 [(3, .int 0), (0, .ref x0), (1, .long x1)] [.int ((Int32.ofNat ((S.2.2.1 x0))))] (m, S) none (mf, S)
  refine rsn 1 (t := (6, [(4, .int ((Int32.ofNat ((S.2.2.1 x0))))), (3, .int 0), (0, .ref x0), (1, .long x1)], [])) rfl ?_
  have ex6 : ∀ (z3_3 : Int32) (m3 : Mm), (some m3) = some mf → RN xs L al (Ev xs L al d) 79 22 [] [] (m3, S) none (mf, S) := by
    intro z3_3 m3 h
    try dsimp only at h
    have h := Option.some.inj h
    subst h
    exact rret rfl ⟨rfl, rfl, rfl, rfl, rfl⟩
  have lp6 : ∀ (n : Nat) (y4_3 : Int32) (m4 : Mm), (f_Arrays_fill2_L6 N S x0 x1 ((Int32.ofNat ((S.2.2.1 x0)))) (fun (z3_3 : Int32) (m3 : Mm) => some m3) n y4_3 m4) = some mf → RN xs L al (Ev xs L al d) 79 6 [(0, .ref x0), (1, .long x1), (3, .int y4_3), (4, .int ((Int32.ofNat ((S.2.2.1 x0)))))] [] (m4, S) none (mf, S) := by
    intro n
    induction n with
    | zero => intro y4_3 m4 h; exact absurd h (by simp [f_Arrays_fill2_L6])
    | succ n6 ih6 =>
      intro y4_3 m4 h
      try dsimp only at h
      rw [f_Arrays_fill2_L6] at h
      try dsimp only at h
      refine rsn 2 (t := (9, [(0, .ref x0), (1, .long x1), (3, .int y4_3), (4, .int ((Int32.ofNat ((S.2.2.1 x0)))))], [.int ((Int32.ofNat ((S.2.2.1 x0)))), .int y4_3])) rfl ?_
      by_cases c5 : ((Int32.ofNat ((S.2.2.1 x0)))) ≤ y4_3
      · rw [if_pos c5] at h
        refine rjt (a := (22, [(0, .ref x0), (1, .long x1), (3, .int y4_3), (4, .int ((Int32.ofNat ((S.2.2.1 x0)))))], [])) (b := (12, [(0, .ref x0), (1, .long x1), (3, .int y4_3), (4, .int ((Int32.ofNat ((S.2.2.1 x0)))))], [])) rfl rfl c5 ?_
        exact rsub [] trivial trivial (ex6 y4_3 m4 h)
      · rw [if_neg c5] at h
        refine rjf (a := (22, [(0, .ref x0), (1, .long x1), (3, .int y4_3), (4, .int ((Int32.ofNat ((S.2.2.1 x0)))))], [])) (b := (12, [(0, .ref x0), (1, .long x1), (3, .int y4_3), (4, .int ((Int32.ofNat ((S.2.2.1 x0)))))], [])) rfl rfl c5 ?_
        refine rsn 3 (t := (15, [(0, .ref x0), (1, .long x1), (3, .int y4_3), (4, .int ((Int32.ofNat ((S.2.2.1 x0)))))], [.long x1, .int y4_3, .ref x0])) rfl ?_
        obtain ⟨c6, h⟩ := ck_some h
        refine psJ rfl (hx0 _) rfl c6 ?_
        refine rsn 2 (t := (6, [(3, .int ((y4_3 + 1))), (0, .ref x0), (1, .long x1), (4, .int ((Int32.ofNat ((S.2.2.1 x0)))))], [])) rfl ?_
        exact rsub [(0, .ref x0), (1, .long x1), (3, .int ((y4_3 + 1))), (4, .int ((Int32.ofNat ((S.2.2.1 x0)))))] ⟨rfl, ⟨rfl, ⟨rfl, ⟨rfl, trivial⟩⟩⟩⟩ ⟨rfl, ⟨rfl, ⟨rfl, ⟨rfl, trivial⟩⟩⟩⟩ (ih6 ((y4_3 + 1)) ((vY m4 x0 y4_3.toNatClampNeg x1)) h)
  exact rsub [(0, .ref x0), (1, .long x1), (3, .int 0), (4, .int ((Int32.ofNat ((S.2.2.1 x0)))))] ⟨rfl, ⟨rfl, ⟨rfl, ⟨rfl, trivial⟩⟩⟩⟩ ⟨rfl, ⟨rfl, ⟨rfl, ⟨rfl, trivial⟩⟩⟩⟩ (lp6 N 0 m h)
def f_Ranks_cellPlace (N : Nat) (S : St) (x1 : Int64) (x3 : Int32) (m : Mm) : Option (Int32) := ck (ix ((x1.toInt32 &&& 4095)) 4096) (ck (ix (((((lus x1 12)).toInt32) &&& 4095)) 4096) (ck (ix (((((lus x1 24)).toInt32) &&& 4095)) 4096) ((if ((mX m 19 (((x1.toInt32 &&& 4095)).toNatClampNeg))) < 0 then some ((-1)) else (if ((mX m 19 ((((((lus x1 12)).toInt32) &&& 4095)).toNatClampNeg))) < 0 then some ((-1)) else (if ((mX m 19 ((((((lus x1 24)).toInt32) &&& 4095)).toNatClampNeg))) < 0 then some ((-1)) else ck (ix ((mX m 19 (((x1.toInt32 &&& 4095)).toNatClampNeg))) 210) (ck (ix ((mX m 19 ((((((lus x1 12)).toInt32) &&& 4095)).toNatClampNeg))) 210) (ck (ix ((mX m 19 ((((((lus x1 24)).toInt32) &&& 4095)).toNatClampNeg))) 210) ((if ((((((mX m 20 (((mX m 19 (((x1.toInt32 &&& 4095)).toNatClampNeg))).toNatClampNeg))) + ((mX m 20 (((mX m 19 ((((((lus x1 12)).toInt32) &&& 4095)).toNatClampNeg))).toNatClampNeg))))) + ((mX m 20 (((mX m 19 ((((((lus x1 24)).toInt32) &&& 4095)).toNatClampNeg))).toNatClampNeg))))) ≤ x3 then ck (ix ((((x3 * 210)) + ((mX m 19 (((x1.toInt32 &&& 4095)).toNatClampNeg))))) 1470) (ck (ix ((mX m 19 (((x1.toInt32 &&& 4095)).toNatClampNeg))) 210) (ck (ix ((((((x3 - ((mX m 20 (((mX m 19 (((x1.toInt32 &&& 4095)).toNatClampNeg))).toNatClampNeg))))) * 210)) + ((mX m 19 ((((((lus x1 12)).toInt32) &&& 4095)).toNatClampNeg))))) 1470) (some ((((((mX m 23 (((((x3 * 210)) + ((mX m 19 (((x1.toInt32 &&& 4095)).toNatClampNeg))))).toNatClampNeg))) + ((mX m 22 (((((((x3 - ((mX m 20 (((mX m 19 (((x1.toInt32 &&& 4095)).toNatClampNeg))).toNatClampNeg))))) * 210)) + ((mX m 19 ((((((lus x1 12)).toInt32) &&& 4095)).toNatClampNeg))))).toNatClampNeg))))) + ((mX m 19 ((((((lus x1 24)).toInt32) &&& 4095)).toNatClampNeg)))))))) else some ((-1))))))))))))
set_option maxRecDepth 20000 in
set_option maxHeartbeats 4000000 in
theorem e_Ranks_cellPlace {xs : Nat → Int32} {L : Nat} {al : Bool} (N : Nat) {d : Nat} (hd : 1 ≤ d) {S : St} (hSh : ShC S) {x1 : Int64} {x3 : Int32} {m : Mm} {r0 : Int32} (h : f_Ranks_cellPlace N S x1 x3 m = some r0) : Ev xs L al d 82 [.ref 18, .long x1, .int x3] (m, S) (some (.int r0)) (m, S) := by
  obtain ⟨d, rfl⟩ : ∃ e, d = e + 1 := ⟨d - 1, by omega⟩
  refine ev_of (by decide) (Nat.le_of_ble_eq_true rfl) ?_
  rw [f_Ranks_cellPlace] at h
  show RN xs L al (Ev xs L al d) 82 0 [(0, .ref 18), (1, .long x1), (3, .int x3)] [] (m, S) (some (.int r0)) (m, S)
  refine rsn 1 (t := (1, [(0, .ref 18), (1, .long x1), (3, .int x3)], [.ref 18])) rfl ?_
  refine rgR rfl rfl rfl (hSh.1.k 18 rfl _) (hSh.1.r 12 rfl _) ?_
  refine rsn 4 (t := (10, [(0, .ref 18), (1, .long x1), (3, .int x3)], [.int ((x1.toInt32 &&& 4095)), .ref 19])) rfl ?_
  obtain ⟨c1, h⟩ := ck_some h
  refine pxI rfl (hSh.1.k 19 rfl _) (hSh.1.l 13 rfl _) c1 ?_
  show RN xs L al (Ev xs L al d) 82 11 [(0, .ref 18), (1, .long x1), (3, .int x3)] [.int ((mX m 19 (((x1.toInt32 &&& 4095)).toNatClampNeg)))] (m, S) (some (.int r0)) (m, S)
  refine rsn 2 (t := (14, [(4, .int ((mX m 19 (((x1.toInt32 &&& 4095)).toNatClampNeg)))), (0, .ref 18), (1, .long x1), (3, .int x3)], [.ref 18])) rfl ?_
  refine rgR rfl rfl rfl (hSh.1.k 18 rfl _) (hSh.1.r 12 rfl _) ?_
  refine rsn 2 (t := (20, [(4, .int ((mX m 19 (((x1.toInt32 &&& 4095)).toNatClampNeg)))), (0, .ref 18), (1, .long x1), (3, .int x3)], [.int 12, .long x1, .ref 19])) rfl ?_
  refine rsn 1 (t := (21, [(4, .int ((mX m 19 (((x1.toInt32 &&& 4095)).toNatClampNeg)))), (0, .ref 18), (1, .long x1), (3, .int x3)], [.long ((lus x1 12)), .ref 19])) rfl ?_
  refine rsn 3 (t := (26, [(4, .int ((mX m 19 (((x1.toInt32 &&& 4095)).toNatClampNeg)))), (0, .ref 18), (1, .long x1), (3, .int x3)], [.int (((((lus x1 12)).toInt32) &&& 4095)), .ref 19])) rfl ?_
  obtain ⟨c2, h⟩ := ck_some h
  refine pxI rfl (hSh.1.k 19 rfl _) (hSh.1.l 13 rfl _) c2 ?_
  show RN xs L al (Ev xs L al d) 82 27 [(4, .int ((mX m 19 (((x1.toInt32 &&& 4095)).toNatClampNeg)))), (0, .ref 18), (1, .long x1), (3, .int x3)] [.int ((mX m 19 ((((((lus x1 12)).toInt32) &&& 4095)).toNatClampNeg)))] (m, S) (some (.int r0)) (m, S)
  refine rsn 2 (t := (30, [(5, .int ((mX m 19 ((((((lus x1 12)).toInt32) &&& 4095)).toNatClampNeg)))), (4, .int ((mX m 19 (((x1.toInt32 &&& 4095)).toNatClampNeg)))), (0, .ref 18), (1, .long x1), (3, .int x3)], [.ref 18])) rfl ?_
  refine rgR rfl rfl rfl (hSh.1.k 18 rfl _) (hSh.1.r 12 rfl _) ?_
  refine rsn 2 (t := (36, [(5, .int ((mX m 19 ((((((lus x1 12)).toInt32) &&& 4095)).toNatClampNeg)))), (4, .int ((mX m 19 (((x1.toInt32 &&& 4095)).toNatClampNeg)))), (0, .ref 18), (1, .long x1), (3, .int x3)], [.int 24, .long x1, .ref 19])) rfl ?_
  refine rsn 1 (t := (37, [(5, .int ((mX m 19 ((((((lus x1 12)).toInt32) &&& 4095)).toNatClampNeg)))), (4, .int ((mX m 19 (((x1.toInt32 &&& 4095)).toNatClampNeg)))), (0, .ref 18), (1, .long x1), (3, .int x3)], [.long ((lus x1 24)), .ref 19])) rfl ?_
  refine rsn 3 (t := (42, [(5, .int ((mX m 19 ((((((lus x1 12)).toInt32) &&& 4095)).toNatClampNeg)))), (4, .int ((mX m 19 (((x1.toInt32 &&& 4095)).toNatClampNeg)))), (0, .ref 18), (1, .long x1), (3, .int x3)], [.int (((((lus x1 24)).toInt32) &&& 4095)), .ref 19])) rfl ?_
  obtain ⟨c3, h⟩ := ck_some h
  refine pxI rfl (hSh.1.k 19 rfl _) (hSh.1.l 13 rfl _) c3 ?_
  show RN xs L al (Ev xs L al d) 82 43 [(5, .int ((mX m 19 ((((((lus x1 12)).toInt32) &&& 4095)).toNatClampNeg)))), (4, .int ((mX m 19 (((x1.toInt32 &&& 4095)).toNatClampNeg)))), (0, .ref 18), (1, .long x1), (3, .int x3)] [.int ((mX m 19 ((((((lus x1 24)).toInt32) &&& 4095)).toNatClampNeg)))] (m, S) (some (.int r0)) (m, S)
  refine rsn 2 (t := (47, [(6, .int ((mX m 19 ((((((lus x1 24)).toInt32) &&& 4095)).toNatClampNeg)))), (5, .int ((mX m 19 ((((((lus x1 12)).toInt32) &&& 4095)).toNatClampNeg)))), (4, .int ((mX m 19 (((x1.toInt32 &&& 4095)).toNatClampNeg)))), (0, .ref 18), (1, .long x1), (3, .int x3)], [.int ((mX m 19 (((x1.toInt32 &&& 4095)).toNatClampNeg)))])) rfl ?_
  by_cases c4 : ((mX m 19 (((x1.toInt32 &&& 4095)).toNatClampNeg))) < 0
  · rw [if_pos c4] at h
    refine rjt (a := (87, [(6, .int ((mX m 19 ((((((lus x1 24)).toInt32) &&& 4095)).toNatClampNeg)))), (5, .int ((mX m 19 ((((((lus x1 12)).toInt32) &&& 4095)).toNatClampNeg)))), (4, .int ((mX m 19 (((x1.toInt32 &&& 4095)).toNatClampNeg)))), (0, .ref 18), (1, .long x1), (3, .int x3)], [])) (b := (50, [(6, .int ((mX m 19 ((((((lus x1 24)).toInt32) &&& 4095)).toNatClampNeg)))), (5, .int ((mX m 19 ((((((lus x1 12)).toInt32) &&& 4095)).toNatClampNeg)))), (4, .int ((mX m 19 (((x1.toInt32 &&& 4095)).toNatClampNeg)))), (0, .ref 18), (1, .long x1), (3, .int x3)], [])) rfl rfl c4 ?_
    refine rsn 1 (t := (88, [(6, .int ((mX m 19 ((((((lus x1 24)).toInt32) &&& 4095)).toNatClampNeg)))), (5, .int ((mX m 19 ((((((lus x1 12)).toInt32) &&& 4095)).toNatClampNeg)))), (4, .int ((mX m 19 (((x1.toInt32 &&& 4095)).toNatClampNeg)))), (0, .ref 18), (1, .long x1), (3, .int x3)], [.int ((-1))])) rfl ?_
    have h := Option.some.inj h
    subst h
    exact rret rfl ⟨rfl, rfl, _, _, rfl, rfl, rfl, rfl⟩
  · rw [if_neg c4] at h
    refine rjf (a := (87, [(6, .int ((mX m 19 ((((((lus x1 24)).toInt32) &&& 4095)).toNatClampNeg)))), (5, .int ((mX m 19 ((((((lus x1 12)).toInt32) &&& 4095)).toNatClampNeg)))), (4, .int ((mX m 19 (((x1.toInt32 &&& 4095)).toNatClampNeg)))), (0, .ref 18), (1, .long x1), (3, .int x3)], [])) (b := (50, [(6, .int ((mX m 19 ((((((lus x1 24)).toInt32) &&& 4095)).toNatClampNeg)))), (5, .int ((mX m 19 ((((((lus x1 12)).toInt32) &&& 4095)).toNatClampNeg)))), (4, .int ((mX m 19 (((x1.toInt32 &&& 4095)).toNatClampNeg)))), (0, .ref 18), (1, .long x1), (3, .int x3)], [])) rfl rfl c4 ?_
    refine rsn 1 (t := (52, [(6, .int ((mX m 19 ((((((lus x1 24)).toInt32) &&& 4095)).toNatClampNeg)))), (5, .int ((mX m 19 ((((((lus x1 12)).toInt32) &&& 4095)).toNatClampNeg)))), (4, .int ((mX m 19 (((x1.toInt32 &&& 4095)).toNatClampNeg)))), (0, .ref 18), (1, .long x1), (3, .int x3)], [.int ((mX m 19 ((((((lus x1 12)).toInt32) &&& 4095)).toNatClampNeg)))])) rfl ?_
    by_cases c5 : ((mX m 19 ((((((lus x1 12)).toInt32) &&& 4095)).toNatClampNeg))) < 0
    · rw [if_pos c5] at h
      refine rjt (a := (87, [(6, .int ((mX m 19 ((((((lus x1 24)).toInt32) &&& 4095)).toNatClampNeg)))), (5, .int ((mX m 19 ((((((lus x1 12)).toInt32) &&& 4095)).toNatClampNeg)))), (4, .int ((mX m 19 (((x1.toInt32 &&& 4095)).toNatClampNeg)))), (0, .ref 18), (1, .long x1), (3, .int x3)], [])) (b := (55, [(6, .int ((mX m 19 ((((((lus x1 24)).toInt32) &&& 4095)).toNatClampNeg)))), (5, .int ((mX m 19 ((((((lus x1 12)).toInt32) &&& 4095)).toNatClampNeg)))), (4, .int ((mX m 19 (((x1.toInt32 &&& 4095)).toNatClampNeg)))), (0, .ref 18), (1, .long x1), (3, .int x3)], [])) rfl rfl c5 ?_
      refine rsn 1 (t := (88, [(6, .int ((mX m 19 ((((((lus x1 24)).toInt32) &&& 4095)).toNatClampNeg)))), (5, .int ((mX m 19 ((((((lus x1 12)).toInt32) &&& 4095)).toNatClampNeg)))), (4, .int ((mX m 19 (((x1.toInt32 &&& 4095)).toNatClampNeg)))), (0, .ref 18), (1, .long x1), (3, .int x3)], [.int ((-1))])) rfl ?_
      have h := Option.some.inj h
      subst h
      exact rret rfl ⟨rfl, rfl, _, _, rfl, rfl, rfl, rfl⟩
    · rw [if_neg c5] at h
      refine rjf (a := (87, [(6, .int ((mX m 19 ((((((lus x1 24)).toInt32) &&& 4095)).toNatClampNeg)))), (5, .int ((mX m 19 ((((((lus x1 12)).toInt32) &&& 4095)).toNatClampNeg)))), (4, .int ((mX m 19 (((x1.toInt32 &&& 4095)).toNatClampNeg)))), (0, .ref 18), (1, .long x1), (3, .int x3)], [])) (b := (55, [(6, .int ((mX m 19 ((((((lus x1 24)).toInt32) &&& 4095)).toNatClampNeg)))), (5, .int ((mX m 19 ((((((lus x1 12)).toInt32) &&& 4095)).toNatClampNeg)))), (4, .int ((mX m 19 (((x1.toInt32 &&& 4095)).toNatClampNeg)))), (0, .ref 18), (1, .long x1), (3, .int x3)], [])) rfl rfl c5 ?_
      refine rsn 1 (t := (57, [(6, .int ((mX m 19 ((((((lus x1 24)).toInt32) &&& 4095)).toNatClampNeg)))), (5, .int ((mX m 19 ((((((lus x1 12)).toInt32) &&& 4095)).toNatClampNeg)))), (4, .int ((mX m 19 (((x1.toInt32 &&& 4095)).toNatClampNeg)))), (0, .ref 18), (1, .long x1), (3, .int x3)], [.int ((mX m 19 ((((((lus x1 24)).toInt32) &&& 4095)).toNatClampNeg)))])) rfl ?_
      by_cases c6 : ((mX m 19 ((((((lus x1 24)).toInt32) &&& 4095)).toNatClampNeg))) < 0
      · rw [if_pos c6] at h
        refine rjt (a := (87, [(6, .int ((mX m 19 ((((((lus x1 24)).toInt32) &&& 4095)).toNatClampNeg)))), (5, .int ((mX m 19 ((((((lus x1 12)).toInt32) &&& 4095)).toNatClampNeg)))), (4, .int ((mX m 19 (((x1.toInt32 &&& 4095)).toNatClampNeg)))), (0, .ref 18), (1, .long x1), (3, .int x3)], [])) (b := (60, [(6, .int ((mX m 19 ((((((lus x1 24)).toInt32) &&& 4095)).toNatClampNeg)))), (5, .int ((mX m 19 ((((((lus x1 12)).toInt32) &&& 4095)).toNatClampNeg)))), (4, .int ((mX m 19 (((x1.toInt32 &&& 4095)).toNatClampNeg)))), (0, .ref 18), (1, .long x1), (3, .int x3)], [])) rfl rfl c6 ?_
        refine rsn 1 (t := (88, [(6, .int ((mX m 19 ((((((lus x1 24)).toInt32) &&& 4095)).toNatClampNeg)))), (5, .int ((mX m 19 ((((((lus x1 12)).toInt32) &&& 4095)).toNatClampNeg)))), (4, .int ((mX m 19 (((x1.toInt32 &&& 4095)).toNatClampNeg)))), (0, .ref 18), (1, .long x1), (3, .int x3)], [.int ((-1))])) rfl ?_
        have h := Option.some.inj h
        subst h
        exact rret rfl ⟨rfl, rfl, _, _, rfl, rfl, rfl, rfl⟩
      · rw [if_neg c6] at h
        refine rjf (a := (87, [(6, .int ((mX m 19 ((((((lus x1 24)).toInt32) &&& 4095)).toNatClampNeg)))), (5, .int ((mX m 19 ((((((lus x1 12)).toInt32) &&& 4095)).toNatClampNeg)))), (4, .int ((mX m 19 (((x1.toInt32 &&& 4095)).toNatClampNeg)))), (0, .ref 18), (1, .long x1), (3, .int x3)], [])) (b := (60, [(6, .int ((mX m 19 ((((((lus x1 24)).toInt32) &&& 4095)).toNatClampNeg)))), (5, .int ((mX m 19 ((((((lus x1 12)).toInt32) &&& 4095)).toNatClampNeg)))), (4, .int ((mX m 19 (((x1.toInt32 &&& 4095)).toNatClampNeg)))), (0, .ref 18), (1, .long x1), (3, .int x3)], [])) rfl rfl c6 ?_
        refine rsn 1 (t := (61, [(6, .int ((mX m 19 ((((((lus x1 24)).toInt32) &&& 4095)).toNatClampNeg)))), (5, .int ((mX m 19 ((((((lus x1 12)).toInt32) &&& 4095)).toNatClampNeg)))), (4, .int ((mX m 19 (((x1.toInt32 &&& 4095)).toNatClampNeg)))), (0, .ref 18), (1, .long x1), (3, .int x3)], [.ref 18])) rfl ?_
        refine rgR rfl rfl rfl (hSh.1.k 18 rfl _) (hSh.1.r 13 rfl _) ?_
        refine rsn 1 (t := (66, [(6, .int ((mX m 19 ((((((lus x1 24)).toInt32) &&& 4095)).toNatClampNeg)))), (5, .int ((mX m 19 ((((((lus x1 12)).toInt32) &&& 4095)).toNatClampNeg)))), (4, .int ((mX m 19 (((x1.toInt32 &&& 4095)).toNatClampNeg)))), (0, .ref 18), (1, .long x1), (3, .int x3)], [.int ((mX m 19 (((x1.toInt32 &&& 4095)).toNatClampNeg))), .ref 20])) rfl ?_
        obtain ⟨c7, h⟩ := ck_some h
        refine pxI rfl (hSh.1.k 20 rfl _) (hSh.1.l 14 rfl _) c7 ?_
        show RN xs L al (Ev xs L al d) 82 67 [(6, .int ((mX m 19 ((((((lus x1 24)).toInt32) &&& 4095)).toNatClampNeg)))), (5, .int ((mX m 19 ((((((lus x1 12)).toInt32) &&& 4095)).toNatClampNeg)))), (4, .int ((mX m 19 (((x1.toInt32 &&& 4095)).toNatClampNeg)))), (0, .ref 18), (1, .long x1), (3, .int x3)] [.int ((mX m 20 (((mX m 19 (((x1.toInt32 &&& 4095)).toNatClampNeg))).toNatClampNeg)))] (m, S) (some (.int r0)) (m, S)
        refine rsn 1 (t := (68, [(6, .int ((mX m 19 ((((((lus x1 24)).toInt32) &&& 4095)).toNatClampNeg)))), (5, .int ((mX m 19 ((((((lus x1 12)).toInt32) &&& 4095)).toNatClampNeg)))), (4, .int ((mX m 19 (((x1.toInt32 &&& 4095)).toNatClampNeg)))), (0, .ref 18), (1, .long x1), (3, .int x3)], [.ref 18, .int ((mX m 20 (((mX m 19 (((x1.toInt32 &&& 4095)).toNatClampNeg))).toNatClampNeg)))])) rfl ?_
        refine rgR rfl rfl rfl (hSh.1.k 18 rfl _) (hSh.1.r 13 rfl _) ?_
        refine rsn 1 (t := (73, [(6, .int ((mX m 19 ((((((lus x1 24)).toInt32) &&& 4095)).toNatClampNeg)))), (5, .int ((mX m 19 ((((((lus x1 12)).toInt32) &&& 4095)).toNatClampNeg)))), (4, .int ((mX m 19 (((x1.toInt32 &&& 4095)).toNatClampNeg)))), (0, .ref 18), (1, .long x1), (3, .int x3)], [.int ((mX m 19 ((((((lus x1 12)).toInt32) &&& 4095)).toNatClampNeg))), .ref 20, .int ((mX m 20 (((mX m 19 (((x1.toInt32 &&& 4095)).toNatClampNeg))).toNatClampNeg)))])) rfl ?_
        obtain ⟨c8, h⟩ := ck_some h
        refine pxI rfl (hSh.1.k 20 rfl _) (hSh.1.l 14 rfl _) c8 ?_
        show RN xs L al (Ev xs L al d) 82 74 [(6, .int ((mX m 19 ((((((lus x1 24)).toInt32) &&& 4095)).toNatClampNeg)))), (5, .int ((mX m 19 ((((((lus x1 12)).toInt32) &&& 4095)).toNatClampNeg)))), (4, .int ((mX m 19 (((x1.toInt32 &&& 4095)).toNatClampNeg)))), (0, .ref 18), (1, .long x1), (3, .int x3)] [.int ((mX m 20 (((mX m 19 ((((((lus x1 12)).toInt32) &&& 4095)).toNatClampNeg))).toNatClampNeg))), .int ((mX m 20 (((mX m 19 (((x1.toInt32 &&& 4095)).toNatClampNeg))).toNatClampNeg)))] (m, S) (some (.int r0)) (m, S)
        refine rsn 2 (t := (76, [(6, .int ((mX m 19 ((((((lus x1 24)).toInt32) &&& 4095)).toNatClampNeg)))), (5, .int ((mX m 19 ((((((lus x1 12)).toInt32) &&& 4095)).toNatClampNeg)))), (4, .int ((mX m 19 (((x1.toInt32 &&& 4095)).toNatClampNeg)))), (0, .ref 18), (1, .long x1), (3, .int x3)], [.ref 18, .int ((((mX m 20 (((mX m 19 (((x1.toInt32 &&& 4095)).toNatClampNeg))).toNatClampNeg))) + ((mX m 20 (((mX m 19 ((((((lus x1 12)).toInt32) &&& 4095)).toNatClampNeg))).toNatClampNeg)))))])) rfl ?_
        refine rgR rfl rfl rfl (hSh.1.k 18 rfl _) (hSh.1.r 13 rfl _) ?_
        refine rsn 1 (t := (81, [(6, .int ((mX m 19 ((((((lus x1 24)).toInt32) &&& 4095)).toNatClampNeg)))), (5, .int ((mX m 19 ((((((lus x1 12)).toInt32) &&& 4095)).toNatClampNeg)))), (4, .int ((mX m 19 (((x1.toInt32 &&& 4095)).toNatClampNeg)))), (0, .ref 18), (1, .long x1), (3, .int x3)], [.int ((mX m 19 ((((((lus x1 24)).toInt32) &&& 4095)).toNatClampNeg))), .ref 20, .int ((((mX m 20 (((mX m 19 (((x1.toInt32 &&& 4095)).toNatClampNeg))).toNatClampNeg))) + ((mX m 20 (((mX m 19 ((((((lus x1 12)).toInt32) &&& 4095)).toNatClampNeg))).toNatClampNeg)))))])) rfl ?_
        obtain ⟨c9, h⟩ := ck_some h
        refine pxI rfl (hSh.1.k 20 rfl _) (hSh.1.l 14 rfl _) c9 ?_
        show RN xs L al (Ev xs L al d) 82 82 [(6, .int ((mX m 19 ((((((lus x1 24)).toInt32) &&& 4095)).toNatClampNeg)))), (5, .int ((mX m 19 ((((((lus x1 12)).toInt32) &&& 4095)).toNatClampNeg)))), (4, .int ((mX m 19 (((x1.toInt32 &&& 4095)).toNatClampNeg)))), (0, .ref 18), (1, .long x1), (3, .int x3)] [.int ((mX m 20 (((mX m 19 ((((((lus x1 24)).toInt32) &&& 4095)).toNatClampNeg))).toNatClampNeg))), .int ((((mX m 20 (((mX m 19 (((x1.toInt32 &&& 4095)).toNatClampNeg))).toNatClampNeg))) + ((mX m 20 (((mX m 19 ((((((lus x1 12)).toInt32) &&& 4095)).toNatClampNeg))).toNatClampNeg)))))] (m, S) (some (.int r0)) (m, S)
        refine rsn 2 (t := (84, [(6, .int ((mX m 19 ((((((lus x1 24)).toInt32) &&& 4095)).toNatClampNeg)))), (5, .int ((mX m 19 ((((((lus x1 12)).toInt32) &&& 4095)).toNatClampNeg)))), (4, .int ((mX m 19 (((x1.toInt32 &&& 4095)).toNatClampNeg)))), (0, .ref 18), (1, .long x1), (3, .int x3)], [.int x3, .int ((((((mX m 20 (((mX m 19 (((x1.toInt32 &&& 4095)).toNatClampNeg))).toNatClampNeg))) + ((mX m 20 (((mX m 19 ((((((lus x1 12)).toInt32) &&& 4095)).toNatClampNeg))).toNatClampNeg))))) + ((mX m 20 (((mX m 19 ((((((lus x1 24)).toInt32) &&& 4095)).toNatClampNeg))).toNatClampNeg)))))])) rfl ?_
        by_cases c10 : ((((((mX m 20 (((mX m 19 (((x1.toInt32 &&& 4095)).toNatClampNeg))).toNatClampNeg))) + ((mX m 20 (((mX m 19 ((((((lus x1 12)).toInt32) &&& 4095)).toNatClampNeg))).toNatClampNeg))))) + ((mX m 20 (((mX m 19 ((((((lus x1 24)).toInt32) &&& 4095)).toNatClampNeg))).toNatClampNeg))))) ≤ x3
        · rw [if_pos c10] at h
          refine rjt (a := (89, [(6, .int ((mX m 19 ((((((lus x1 24)).toInt32) &&& 4095)).toNatClampNeg)))), (5, .int ((mX m 19 ((((((lus x1 12)).toInt32) &&& 4095)).toNatClampNeg)))), (4, .int ((mX m 19 (((x1.toInt32 &&& 4095)).toNatClampNeg)))), (0, .ref 18), (1, .long x1), (3, .int x3)], [])) (b := (87, [(6, .int ((mX m 19 ((((((lus x1 24)).toInt32) &&& 4095)).toNatClampNeg)))), (5, .int ((mX m 19 ((((((lus x1 12)).toInt32) &&& 4095)).toNatClampNeg)))), (4, .int ((mX m 19 (((x1.toInt32 &&& 4095)).toNatClampNeg)))), (0, .ref 18), (1, .long x1), (3, .int x3)], [])) rfl rfl c10 ?_
          refine rsn 1 (t := (90, [(6, .int ((mX m 19 ((((((lus x1 24)).toInt32) &&& 4095)).toNatClampNeg)))), (5, .int ((mX m 19 ((((((lus x1 12)).toInt32) &&& 4095)).toNatClampNeg)))), (4, .int ((mX m 19 (((x1.toInt32 &&& 4095)).toNatClampNeg)))), (0, .ref 18), (1, .long x1), (3, .int x3)], [.ref 18])) rfl ?_
          refine rgR rfl rfl rfl (hSh.1.k 18 rfl _) (hSh.1.r 16 rfl _) ?_
          refine rsn 5 (t := (101, [(6, .int ((mX m 19 ((((((lus x1 24)).toInt32) &&& 4095)).toNatClampNeg)))), (5, .int ((mX m 19 ((((((lus x1 12)).toInt32) &&& 4095)).toNatClampNeg)))), (4, .int ((mX m 19 (((x1.toInt32 &&& 4095)).toNatClampNeg)))), (0, .ref 18), (1, .long x1), (3, .int x3)], [.int ((((x3 * 210)) + ((mX m 19 (((x1.toInt32 &&& 4095)).toNatClampNeg))))), .ref 23])) rfl ?_
          obtain ⟨c11, h⟩ := ck_some h
          refine pxI rfl (hSh.1.k 23 rfl _) (hSh.1.l 17 rfl _) c11 ?_
          show RN xs L al (Ev xs L al d) 82 102 [(6, .int ((mX m 19 ((((((lus x1 24)).toInt32) &&& 4095)).toNatClampNeg)))), (5, .int ((mX m 19 ((((((lus x1 12)).toInt32) &&& 4095)).toNatClampNeg)))), (4, .int ((mX m 19 (((x1.toInt32 &&& 4095)).toNatClampNeg)))), (0, .ref 18), (1, .long x1), (3, .int x3)] [.int ((mX m 23 (((((x3 * 210)) + ((mX m 19 (((x1.toInt32 &&& 4095)).toNatClampNeg))))).toNatClampNeg)))] (m, S) (some (.int r0)) (m, S)
          refine rsn 1 (t := (103, [(6, .int ((mX m 19 ((((((lus x1 24)).toInt32) &&& 4095)).toNatClampNeg)))), (5, .int ((mX m 19 ((((((lus x1 12)).toInt32) &&& 4095)).toNatClampNeg)))), (4, .int ((mX m 19 (((x1.toInt32 &&& 4095)).toNatClampNeg)))), (0, .ref 18), (1, .long x1), (3, .int x3)], [.ref 18, .int ((mX m 23 (((((x3 * 210)) + ((mX m 19 (((x1.toInt32 &&& 4095)).toNatClampNeg))))).toNatClampNeg)))])) rfl ?_
          refine rgR rfl rfl rfl (hSh.1.k 18 rfl _) (hSh.1.r 15 rfl _) ?_
          refine rsn 2 (t := (108, [(6, .int ((mX m 19 ((((((lus x1 24)).toInt32) &&& 4095)).toNatClampNeg)))), (5, .int ((mX m 19 ((((((lus x1 12)).toInt32) &&& 4095)).toNatClampNeg)))), (4, .int ((mX m 19 (((x1.toInt32 &&& 4095)).toNatClampNeg)))), (0, .ref 18), (1, .long x1), (3, .int x3)], [.ref 18, .int x3, .ref 22, .int ((mX m 23 (((((x3 * 210)) + ((mX m 19 (((x1.toInt32 &&& 4095)).toNatClampNeg))))).toNatClampNeg)))])) rfl ?_
          refine rgR rfl rfl rfl (hSh.1.k 18 rfl _) (hSh.1.r 13 rfl _) ?_
          refine rsn 1 (t := (113, [(6, .int ((mX m 19 ((((((lus x1 24)).toInt32) &&& 4095)).toNatClampNeg)))), (5, .int ((mX m 19 ((((((lus x1 12)).toInt32) &&& 4095)).toNatClampNeg)))), (4, .int ((mX m 19 (((x1.toInt32 &&& 4095)).toNatClampNeg)))), (0, .ref 18), (1, .long x1), (3, .int x3)], [.int ((mX m 19 (((x1.toInt32 &&& 4095)).toNatClampNeg))), .ref 20, .int x3, .ref 22, .int ((mX m 23 (((((x3 * 210)) + ((mX m 19 (((x1.toInt32 &&& 4095)).toNatClampNeg))))).toNatClampNeg)))])) rfl ?_
          obtain ⟨c12, h⟩ := ck_some h
          refine pxI rfl (hSh.1.k 20 rfl _) (hSh.1.l 14 rfl _) c12 ?_
          show RN xs L al (Ev xs L al d) 82 114 [(6, .int ((mX m 19 ((((((lus x1 24)).toInt32) &&& 4095)).toNatClampNeg)))), (5, .int ((mX m 19 ((((((lus x1 12)).toInt32) &&& 4095)).toNatClampNeg)))), (4, .int ((mX m 19 (((x1.toInt32 &&& 4095)).toNatClampNeg)))), (0, .ref 18), (1, .long x1), (3, .int x3)] [.int ((mX m 20 (((mX m 19 (((x1.toInt32 &&& 4095)).toNatClampNeg))).toNatClampNeg))), .int x3, .ref 22, .int ((mX m 23 (((((x3 * 210)) + ((mX m 19 (((x1.toInt32 &&& 4095)).toNatClampNeg))))).toNatClampNeg)))] (m, S) (some (.int r0)) (m, S)
          refine rsn 5 (t := (122, [(6, .int ((mX m 19 ((((((lus x1 24)).toInt32) &&& 4095)).toNatClampNeg)))), (5, .int ((mX m 19 ((((((lus x1 12)).toInt32) &&& 4095)).toNatClampNeg)))), (4, .int ((mX m 19 (((x1.toInt32 &&& 4095)).toNatClampNeg)))), (0, .ref 18), (1, .long x1), (3, .int x3)], [.int ((((((x3 - ((mX m 20 (((mX m 19 (((x1.toInt32 &&& 4095)).toNatClampNeg))).toNatClampNeg))))) * 210)) + ((mX m 19 ((((((lus x1 12)).toInt32) &&& 4095)).toNatClampNeg))))), .ref 22, .int ((mX m 23 (((((x3 * 210)) + ((mX m 19 (((x1.toInt32 &&& 4095)).toNatClampNeg))))).toNatClampNeg)))])) rfl ?_
          obtain ⟨c13, h⟩ := ck_some h
          refine pxI rfl (hSh.1.k 22 rfl _) (hSh.1.l 16 rfl _) c13 ?_
          show RN xs L al (Ev xs L al d) 82 123 [(6, .int ((mX m 19 ((((((lus x1 24)).toInt32) &&& 4095)).toNatClampNeg)))), (5, .int ((mX m 19 ((((((lus x1 12)).toInt32) &&& 4095)).toNatClampNeg)))), (4, .int ((mX m 19 (((x1.toInt32 &&& 4095)).toNatClampNeg)))), (0, .ref 18), (1, .long x1), (3, .int x3)] [.int ((mX m 22 (((((((x3 - ((mX m 20 (((mX m 19 (((x1.toInt32 &&& 4095)).toNatClampNeg))).toNatClampNeg))))) * 210)) + ((mX m 19 ((((((lus x1 12)).toInt32) &&& 4095)).toNatClampNeg))))).toNatClampNeg))), .int ((mX m 23 (((((x3 * 210)) + ((mX m 19 (((x1.toInt32 &&& 4095)).toNatClampNeg))))).toNatClampNeg)))] (m, S) (some (.int r0)) (m, S)
          refine rsn 3 (t := (127, [(6, .int ((mX m 19 ((((((lus x1 24)).toInt32) &&& 4095)).toNatClampNeg)))), (5, .int ((mX m 19 ((((((lus x1 12)).toInt32) &&& 4095)).toNatClampNeg)))), (4, .int ((mX m 19 (((x1.toInt32 &&& 4095)).toNatClampNeg)))), (0, .ref 18), (1, .long x1), (3, .int x3)], [.int ((((((mX m 23 (((((x3 * 210)) + ((mX m 19 (((x1.toInt32 &&& 4095)).toNatClampNeg))))).toNatClampNeg))) + ((mX m 22 (((((((x3 - ((mX m 20 (((mX m 19 (((x1.toInt32 &&& 4095)).toNatClampNeg))).toNatClampNeg))))) * 210)) + ((mX m 19 ((((((lus x1 12)).toInt32) &&& 4095)).toNatClampNeg))))).toNatClampNeg))))) + ((mX m 19 ((((((lus x1 24)).toInt32) &&& 4095)).toNatClampNeg)))))])) rfl ?_
          have h := Option.some.inj h
          subst h
          exact rret rfl ⟨rfl, rfl, _, _, rfl, rfl, rfl, rfl⟩
        · rw [if_neg c10] at h
          refine rjf (a := (89, [(6, .int ((mX m 19 ((((((lus x1 24)).toInt32) &&& 4095)).toNatClampNeg)))), (5, .int ((mX m 19 ((((((lus x1 12)).toInt32) &&& 4095)).toNatClampNeg)))), (4, .int ((mX m 19 (((x1.toInt32 &&& 4095)).toNatClampNeg)))), (0, .ref 18), (1, .long x1), (3, .int x3)], [])) (b := (87, [(6, .int ((mX m 19 ((((((lus x1 24)).toInt32) &&& 4095)).toNatClampNeg)))), (5, .int ((mX m 19 ((((((lus x1 12)).toInt32) &&& 4095)).toNatClampNeg)))), (4, .int ((mX m 19 (((x1.toInt32 &&& 4095)).toNatClampNeg)))), (0, .ref 18), (1, .long x1), (3, .int x3)], [])) rfl rfl c10 ?_
          refine rsn 1 (t := (88, [(6, .int ((mX m 19 ((((((lus x1 24)).toInt32) &&& 4095)).toNatClampNeg)))), (5, .int ((mX m 19 ((((((lus x1 12)).toInt32) &&& 4095)).toNatClampNeg)))), (4, .int ((mX m 19 (((x1.toInt32 &&& 4095)).toNatClampNeg)))), (0, .ref 18), (1, .long x1), (3, .int x3)], [.int ((-1))])) rfl ?_
          have h := Option.some.inj h
          subst h
          exact rret rfl ⟨rfl, rfl, _, _, rfl, rfl, rfl, rfl⟩
def f_Ranks_lateOf (N : Nat) (S : St) (x1 : Int64) (m : Mm) : Option (Int32) := b1 (f_State_cameOf N x1) fun r1 => ck (ix r1 8) (some ((mX m 27 r1.toNatClampNeg)))
set_option maxRecDepth 20000 in
set_option maxHeartbeats 4000000 in
theorem e_Ranks_lateOf {xs : Nat → Int32} {L : Nat} {al : Bool} (N : Nat) {d : Nat} (hd : 2 ≤ d) {S : St} (hSh : ShC S) {x1 : Int64} {m : Mm} {r0 : Int32} (h : f_Ranks_lateOf N S x1 m = some r0) : Ev xs L al d 83 [.ref 18, .long x1] (m, S) (some (.int r0)) (m, S) := by
  obtain ⟨d, rfl⟩ : ∃ e, d = e + 1 := ⟨d - 1, by omega⟩
  refine ev_of (by decide) (Nat.le_of_ble_eq_true rfl) ?_
  rw [f_Ranks_lateOf] at h
  show RN xs L al (Ev xs L al d) 83 0 [(0, .ref 18), (1, .long x1)] [] (m, S) (some (.int r0)) (m, S)
  refine rsn 1 (t := (1, [(0, .ref 18), (1, .long x1)], [.ref 18])) rfl ?_
  refine rgR rfl rfl rfl (hSh.1.k 18 rfl _) (hSh.1.r 20 rfl _) ?_
  refine rsn 1 (t := (5, [(0, .ref 18), (1, .long x1)], [.long x1, .ref 27])) rfl ?_
  obtain ⟨r1, g1, h⟩ := b1_some h
  refine rcS 55 [.long x1] rfl rfl rfl (Nat.le_of_ble_eq_true rfl) rfl (e_State_cameOf N (by omega) g1) ?_
  show RN xs L al (Ev xs L al d) 83 8 [(0, .ref 18), (1, .long x1)] [.int r1, .ref 27] (m, S) (some (.int r0)) (m, S)
  obtain ⟨c2, h⟩ := ck_some h
  refine pxI rfl (hSh.1.k 27 rfl _) (hSh.1.l 21 rfl _) c2 ?_
  show RN xs L al (Ev xs L al d) 83 9 [(0, .ref 18), (1, .long x1)] [.int ((mX m 27 r1.toNatClampNeg))] (m, S) (some (.int r0)) (m, S)
  have h := Option.some.inj h
  subst h
  exact rret rfl ⟨rfl, rfl, _, _, rfl, rfl, rfl, rfl⟩
def f_Ranks_endPlaceOf (N : Nat) (S : St) (x1 : Int64) (m : Mm) : Option (Int32) := ck (ix ((mI m 18 11)) 7) (b1 (f_Ranks_cellPlace N S x1 ((mX m 25 (((mI m 18 11)).toNatClampNeg))) m) fun r2 => (if r2 = ((-1)) then some ((-1)) else b1 (f_Ranks_lateOf N S x1 m) fun r4 => some ((((r2 * ((mI m 18 10)))) + r4))))
set_option maxRecDepth 20000 in
set_option maxHeartbeats 4000000 in
theorem e_Ranks_endPlaceOf {xs : Nat → Int32} {L : Nat} {al : Bool} (N : Nat) {d : Nat} (hd : 3 ≤ d) {S : St} (hSh : ShC S) {x1 : Int64} {m : Mm} {r0 : Int32} (h : f_Ranks_endPlaceOf N S x1 m = some r0) : Ev xs L al d 81 [.ref 18, .long x1] (m, S) (some (.int r0)) (m, S) := by
  obtain ⟨d, rfl⟩ : ∃ e, d = e + 1 := ⟨d - 1, by omega⟩
  refine ev_of (by decide) (Nat.le_of_ble_eq_true rfl) ?_
  rw [f_Ranks_endPlaceOf] at h
  show RN xs L al (Ev xs L al d) 81 0 [(0, .ref 18), (1, .long x1)] [] (m, S) (some (.int r0)) (m, S)
  refine rsn 3 (t := (3, [(0, .ref 18), (1, .long x1)], [.ref 18, .long x1, .ref 18])) rfl ?_
  refine rgR rfl rfl rfl (hSh.1.k 18 rfl _) (hSh.1.r 18 rfl _) ?_
  refine rsn 1 (t := (7, [(0, .ref 18), (1, .long x1)], [.ref 18, .ref 25, .long x1, .ref 18])) rfl ?_
  refine pgI rfl rfl rfl (hSh.1.k 18 rfl _) ?_
  show RN xs L al (Ev xs L al d) 81 10 [(0, .ref 18), (1, .long x1)] [.int ((mI m 18 11)), .ref 25, .long x1, .ref 18] (m, S) (some (.int r0)) (m, S)
  obtain ⟨c1, h⟩ := ck_some h
  refine pxI rfl (hSh.1.k 25 rfl _) (hSh.1.l 19 rfl _) c1 ?_
  show RN xs L al (Ev xs L al d) 81 11 [(0, .ref 18), (1, .long x1)] [.int ((mX m 25 (((mI m 18 11)).toNatClampNeg))), .long x1, .ref 18] (m, S) (some (.int r0)) (m, S)
  obtain ⟨r2, g2, h⟩ := b1_some h
  refine rcV 82 18 [.long x1, .int ((mX m 25 (((mI m 18 11)).toNatClampNeg)))] rfl rfl rfl (hSh.1.k 18 rfl _) (Nat.le_of_ble_eq_true rfl) rfl (e_Ranks_cellPlace N (by omega) hSh g2) ?_
  show RN xs L al (Ev xs L al d) 81 14 [(0, .ref 18), (1, .long x1)] [.int r2] (m, S) (some (.int r0)) (m, S)
  refine rsn 3 (t := (17, [(3, .int r2), (0, .ref 18), (1, .long x1)], [.int ((-1)), .int r2])) rfl ?_
  by_cases c3 : r2 = ((-1))
  · rw [if_pos c3] at h
    refine rjf (a := (24, [(3, .int r2), (0, .ref 18), (1, .long x1)], [])) (b := (20, [(3, .int r2), (0, .ref 18), (1, .long x1)], [])) rfl rfl (fun q => q c3) ?_
    refine rsn 2 (t := (36, [(3, .int r2), (0, .ref 18), (1, .long x1)], [.int ((-1))])) rfl ?_
    have h := Option.some.inj h
    subst h
    exact rret rfl ⟨rfl, rfl, _, _, rfl, rfl, rfl, rfl⟩
  · rw [if_neg c3] at h
    refine rjt (a := (24, [(3, .int r2), (0, .ref 18), (1, .long x1)], [])) (b := (20, [(3, .int r2), (0, .ref 18), (1, .long x1)], [])) rfl rfl c3 ?_
    refine rsn 2 (t := (26, [(3, .int r2), (0, .ref 18), (1, .long x1)], [.ref 18, .int r2])) rfl ?_
    refine pgI rfl rfl rfl (hSh.1.k 18 rfl _) ?_
    show RN xs L al (Ev xs L al d) 81 29 [(3, .int r2), (0, .ref 18), (1, .long x1)] [.int ((mI m 18 10)), .int r2] (m, S) (some (.int r0)) (m, S)
    refine rsn 3 (t := (32, [(3, .int r2), (0, .ref 18), (1, .long x1)], [.long x1, .ref 18, .int ((r2 * ((mI m 18 10))))])) rfl ?_
    obtain ⟨r4, g4, h⟩ := b1_some h
    refine rcV 83 18 [.long x1] rfl rfl rfl (hSh.1.k 18 rfl _) (Nat.le_of_ble_eq_true rfl) rfl (e_Ranks_lateOf N (by omega) hSh g4) ?_
    show RN xs L al (Ev xs L al d) 81 35 [(3, .int r2), (0, .ref 18), (1, .long x1)] [.int r4, .int ((r2 * ((mI m 18 10))))] (m, S) (some (.int r0)) (m, S)
    refine rsn 1 (t := (36, [(3, .int r2), (0, .ref 18), (1, .long x1)], [.int ((((r2 * ((mI m 18 10)))) + r4))])) rfl ?_
    have h := Option.some.inj h
    subst h
    exact rret rfl ⟨rfl, rfl, _, _, rfl, rfl, rfl, rfl⟩
def f_Table_at (N : Nat) (S : St) (x0 : Nat) (x1 : Int32) (m : Mm) : Option (Int64) := (if x1 < 0 then some ((-9223372036854775808)) else b1 (S.1 x0 0) fun t2 => (if ((Int32.ofNat ((S.2.2.1 t2)))) ≤ x1 then some ((-9223372036854775808)) else b1 (S.1 x0 0) fun t4 => ck (ix x1 (S.2.2.1 t4)) (some ((mYy m t4 x1.toNatClampNeg)))))
set_option maxRecDepth 20000 in
set_option maxHeartbeats 4000000 in
theorem e_Table_at {xs : Nat → Int32} {L : Nat} {al : Bool} (N : Nat) {d : Nat} (hd : 1 ≤ d) {S : St} (hSh : ShC S) {x0 : Nat} {x1 : Int32} (hx0 : x0 ∈ tKl) {m : Mm} {r0 : Int64} (h : f_Table_at N S x0 x1 m = some r0) : Ev xs L al d 84 [.ref x0, .int x1] (m, S) (some (.long r0)) (m, S) := by
  obtain ⟨d, rfl⟩ : ∃ e, d = e + 1 := ⟨d - 1, by omega⟩
  refine ev_of (by decide) (Nat.le_of_ble_eq_true rfl) ?_
  rw [f_Table_at] at h
  show RN xs L al (Ev xs L al d) 84 0 [(0, .ref x0), (1, .int x1)] [] (m, S) (some (.long r0)) (m, S)
  refine rsn 1 (t := (1, [(0, .ref x0), (1, .int x1)], [.int x1])) rfl ?_
  by_cases c1 : x1 < 0
  · rw [if_pos c1] at h
    refine rjt (a := (22, [(0, .ref x0), (1, .int x1)], [])) (b := (4, [(0, .ref x0), (1, .int x1)], [])) rfl rfl c1 ?_
    refine rsn 1 (t := (25, [(0, .ref x0), (1, .int x1)], [.long ((-9223372036854775808))])) rfl ?_
    have h := Option.some.inj h
    subst h
    exact rret rfl ⟨rfl, rfl, _, rfl, rfl, rfl⟩
  · rw [if_neg c1] at h
    refine rjf (a := (22, [(0, .ref x0), (1, .int x1)], [])) (b := (4, [(0, .ref x0), (1, .int x1)], [])) rfl rfl c1 ?_
    refine rsn 2 (t := (6, [(0, .ref x0), (1, .int x1)], [.ref x0, .int x1])) rfl ?_
    obtain ⟨t2, g2, h⟩ := b1_some h
    refine rgR rfl rfl rfl (hSh.kT hx0 _) g2 ?_
    refine rxL rfl (hSh.kF hx0 g2 _) (by decide) rfl ?_
    show RN xs L al (Ev xs L al d) 84 10 [(0, .ref x0), (1, .int x1)] [.int ((Int32.ofNat ((S.2.2.1 t2)))), .int x1] (m, S) (some (.long r0)) (m, S)
    by_cases c3 : ((Int32.ofNat ((S.2.2.1 t2)))) ≤ x1
    · rw [if_pos c3] at h
      refine rjt (a := (22, [(0, .ref x0), (1, .int x1)], [])) (b := (13, [(0, .ref x0), (1, .int x1)], [])) rfl rfl c3 ?_
      refine rsn 1 (t := (25, [(0, .ref x0), (1, .int x1)], [.long ((-9223372036854775808))])) rfl ?_
      have h := Option.some.inj h
      subst h
      exact rret rfl ⟨rfl, rfl, _, rfl, rfl, rfl⟩
    · rw [if_neg c3] at h
      refine rjf (a := (22, [(0, .ref x0), (1, .int x1)], [])) (b := (13, [(0, .ref x0), (1, .int x1)], [])) rfl rfl c3 ?_
      refine rsn 1 (t := (14, [(0, .ref x0), (1, .int x1)], [.ref x0])) rfl ?_
      obtain ⟨t4, g4, h⟩ := b1_some h
      refine rgR rfl rfl rfl (hSh.kT hx0 _) g4 ?_
      refine rsn 1 (t := (18, [(0, .ref x0), (1, .int x1)], [.int x1, .ref t4])) rfl ?_
      obtain ⟨c5, h⟩ := ck_some h
      refine pxJ rfl (hSh.kF hx0 g4 _) rfl c5 ?_
      show RN xs L al (Ev xs L al d) 84 19 [(0, .ref x0), (1, .int x1)] [.long ((mYy m t4 x1.toNatClampNeg))] (m, S) (some (.long r0)) (m, S)
      refine rsn 1 (t := (25, [(0, .ref x0), (1, .int x1)], [.long ((mYy m t4 x1.toNatClampNeg))])) rfl ?_
      have h := Option.some.inj h
      subst h
      exact rret rfl ⟨rfl, rfl, _, rfl, rfl, rfl⟩
def f_Integer_bitCount (N : Nat) (x0 : Int32) : Option (Int32) := some ((((((((((((((((x0 - ((((ius x0 1)) &&& 1431655765)))) &&& 858993459)) + ((((ius ((x0 - ((((ius x0 1)) &&& 1431655765)))) 2)) &&& 858993459)))) + ((ius ((((((x0 - ((((ius x0 1)) &&& 1431655765)))) &&& 858993459)) + ((((ius ((x0 - ((((ius x0 1)) &&& 1431655765)))) 2)) &&& 858993459)))) 4)))) &&& 252645135)) + ((ius ((((((((((x0 - ((((ius x0 1)) &&& 1431655765)))) &&& 858993459)) + ((((ius ((x0 - ((((ius x0 1)) &&& 1431655765)))) 2)) &&& 858993459)))) + ((ius ((((((x0 - ((((ius x0 1)) &&& 1431655765)))) &&& 858993459)) + ((((ius ((x0 - ((((ius x0 1)) &&& 1431655765)))) 2)) &&& 858993459)))) 4)))) &&& 252645135)) 8)))) + ((ius ((((((((((((x0 - ((((ius x0 1)) &&& 1431655765)))) &&& 858993459)) + ((((ius ((x0 - ((((ius x0 1)) &&& 1431655765)))) 2)) &&& 858993459)))) + ((ius ((((((x0 - ((((ius x0 1)) &&& 1431655765)))) &&& 858993459)) + ((((ius ((x0 - ((((ius x0 1)) &&& 1431655765)))) 2)) &&& 858993459)))) 4)))) &&& 252645135)) + ((ius ((((((((((x0 - ((((ius x0 1)) &&& 1431655765)))) &&& 858993459)) + ((((ius ((x0 - ((((ius x0 1)) &&& 1431655765)))) 2)) &&& 858993459)))) + ((ius ((((((x0 - ((((ius x0 1)) &&& 1431655765)))) &&& 858993459)) + ((((ius ((x0 - ((((ius x0 1)) &&& 1431655765)))) 2)) &&& 858993459)))) 4)))) &&& 252645135)) 8)))) 16)))) &&& 63))
set_option maxRecDepth 20000 in
set_option maxHeartbeats 4000000 in
theorem e_Integer_bitCount {xs : Nat → Int32} {L : Nat} {al : Bool} (N : Nat) {d : Nat} (hd : 1 ≤ d) {w : Wd} {x0 : Int32} {r0 : Int32} (h : f_Integer_bitCount N x0 = some r0) : Ev xs L al d 91 [.int x0] w (some (.int r0)) w := by
  obtain ⟨d, rfl⟩ : ∃ e, d = e + 1 := ⟨d - 1, by omega⟩
  refine ev_of (by decide) (Nat.le_of_ble_eq_true rfl) ?_
  rw [f_Integer_bitCount] at h
  show RN xs L al (Ev xs L al d) 91 0 [(0, .int x0)] [] w (some (.int r0)) w
  refine rsn 41 (t := (52, [(0, .int ((((((((((((((x0 - ((((ius x0 1)) &&& 1431655765)))) &&& 858993459)) + ((((ius ((x0 - ((((ius x0 1)) &&& 1431655765)))) 2)) &&& 858993459)))) + ((ius ((((((x0 - ((((ius x0 1)) &&& 1431655765)))) &&& 858993459)) + ((((ius ((x0 - ((((ius x0 1)) &&& 1431655765)))) 2)) &&& 858993459)))) 4)))) &&& 252645135)) + ((ius ((((((((((x0 - ((((ius x0 1)) &&& 1431655765)))) &&& 858993459)) + ((((ius ((x0 - ((((ius x0 1)) &&& 1431655765)))) 2)) &&& 858993459)))) + ((ius ((((((x0 - ((((ius x0 1)) &&& 1431655765)))) &&& 858993459)) + ((((ius ((x0 - ((((ius x0 1)) &&& 1431655765)))) 2)) &&& 858993459)))) 4)))) &&& 252645135)) 8)))) + ((ius ((((((((((((x0 - ((((ius x0 1)) &&& 1431655765)))) &&& 858993459)) + ((((ius ((x0 - ((((ius x0 1)) &&& 1431655765)))) 2)) &&& 858993459)))) + ((ius ((((((x0 - ((((ius x0 1)) &&& 1431655765)))) &&& 858993459)) + ((((ius ((x0 - ((((ius x0 1)) &&& 1431655765)))) 2)) &&& 858993459)))) 4)))) &&& 252645135)) + ((ius ((((((((((x0 - ((((ius x0 1)) &&& 1431655765)))) &&& 858993459)) + ((((ius ((x0 - ((((ius x0 1)) &&& 1431655765)))) 2)) &&& 858993459)))) + ((ius ((((((x0 - ((((ius x0 1)) &&& 1431655765)))) &&& 858993459)) + ((((ius ((x0 - ((((ius x0 1)) &&& 1431655765)))) 2)) &&& 858993459)))) 4)))) &&& 252645135)) 8)))) 16)))))], [.int ((((((((((((((((x0 - ((((ius x0 1)) &&& 1431655765)))) &&& 858993459)) + ((((ius ((x0 - ((((ius x0 1)) &&& 1431655765)))) 2)) &&& 858993459)))) + ((ius ((((((x0 - ((((ius x0 1)) &&& 1431655765)))) &&& 858993459)) + ((((ius ((x0 - ((((ius x0 1)) &&& 1431655765)))) 2)) &&& 858993459)))) 4)))) &&& 252645135)) + ((ius ((((((((((x0 - ((((ius x0 1)) &&& 1431655765)))) &&& 858993459)) + ((((ius ((x0 - ((((ius x0 1)) &&& 1431655765)))) 2)) &&& 858993459)))) + ((ius ((((((x0 - ((((ius x0 1)) &&& 1431655765)))) &&& 858993459)) + ((((ius ((x0 - ((((ius x0 1)) &&& 1431655765)))) 2)) &&& 858993459)))) 4)))) &&& 252645135)) 8)))) + ((ius ((((((((((((x0 - ((((ius x0 1)) &&& 1431655765)))) &&& 858993459)) + ((((ius ((x0 - ((((ius x0 1)) &&& 1431655765)))) 2)) &&& 858993459)))) + ((ius ((((((x0 - ((((ius x0 1)) &&& 1431655765)))) &&& 858993459)) + ((((ius ((x0 - ((((ius x0 1)) &&& 1431655765)))) 2)) &&& 858993459)))) 4)))) &&& 252645135)) + ((ius ((((((((((x0 - ((((ius x0 1)) &&& 1431655765)))) &&& 858993459)) + ((((ius ((x0 - ((((ius x0 1)) &&& 1431655765)))) 2)) &&& 858993459)))) + ((ius ((((((x0 - ((((ius x0 1)) &&& 1431655765)))) &&& 858993459)) + ((((ius ((x0 - ((((ius x0 1)) &&& 1431655765)))) 2)) &&& 858993459)))) 4)))) &&& 252645135)) 8)))) 16)))) &&& 63))])) rfl ?_
  have h := Option.some.inj h
  subst h
  exact rret rfl ⟨rfl, rfl, _, _, rfl, rfl, rfl, rfl⟩
def f_Goals_leastShare_L38 (N : Nat) (S : St) (x0 : Nat) (x1 : Int64) (x3 : Int32) (x4 : Int32) (x5 : Int32) (m : Mm) (k38 : Int32 → Int32 → Option (Int32)) : Nat → Int32 → Int32 → Option (Int32)
  | 0, _, _ => none
  | n38 + 1, x6, x7 => (if ((mI m x0 0)) ≤ x7 then k38 x6 x7 else b1 (f_Will_valueOf N S x0 x5 x1 x7 m) fun r7 => f_Goals_leastShare_L38 N S x0 x1 x3 x4 x5 m k38 n38 ((x6 + r7)) ((x7 + 1)))
def f_Goals_leastShare_L14 (N : Nat) (S : St) (x0 : Nat) (x1 : Int64) (x3 : Int32) (m : Mm) (k14 : Int32 → Int32 → Option (Int32)) : Nat → Int32 → Int32 → Option (Int32)
  | 0, _, _ => none
  | n14 + 1, x4, x5 => (if ((mI m x0 0)) ≤ x5 then k14 x4 x5 else b1 (f_State_isThere N x1 x5) fun r4 => (if r4 = 0 then f_Goals_leastShare_L14 N S x0 x1 x3 m k14 n14 x4 ((x5 + 1)) else f_Goals_leastShare_L38 N S x0 x1 x3 x4 x5 m (fun (z8_6 : Int32) (z8_7 : Int32) => b1 (f_Will_valueOf N S x0 x5 x1 x5 m) fun r9 => (jn (fun (s10 : Int32) => (if x4 = ((-1)) then f_Goals_leastShare_L14 N S x0 x1 x3 m k14 n14 s10 ((x5 + 1)) else f_Goals_leastShare_L14 N S x0 x1 x3 m k14 n14 ((if s10 < x4 then s10 else x4)) ((x5 + 1)))) (fun j100 => if z8_6 = 0 then j100 1000 else ck (¬ z8_6 = 0) (j100 ((((((r9 * x3)) * 1000)) / z8_6)))))) N 0 0))
def f_Goals_leastShare (N : Nat) (S : St) (x0 : Nat) (x1 : Int64) (m : Mm) : Option (Int32) := b1 (f_State_cameOf N x1) fun r1 => b1 (f_Integer_bitCount N r1) fun r2 => f_Goals_leastShare_L14 N S x0 x1 r2 m (fun (z17_4 : Int32) (z17_5 : Int32) => some z17_4) N ((-1)) 0
set_option maxRecDepth 20000 in
set_option maxHeartbeats 4000000 in
theorem e_Goals_leastShare {xs : Nat → Int32} {L : Nat} {al : Bool} (N : Nat) {d : Nat} (hd : 3 ≤ d) {S : St} (hSh : ShC S) {x0 : Nat} {x1 : Int64} (hx0 : x0 ∈ wKl) {m : Mm} {r0 : Int32} (h : f_Goals_leastShare N S x0 x1 m = some r0) : Ev xs L al d 90 [.ref x0, .long x1] (m, S) (some (.int r0)) (m, S) := by
  obtain ⟨d, rfl⟩ : ∃ e, d = e + 1 := ⟨d - 1, by omega⟩
  refine ev_of (by decide) (Nat.le_of_ble_eq_true rfl) ?_
  rw [f_Goals_leastShare] at h
  show RN xs L al (Ev xs L al d) 90 0 [(0, .ref x0), (1, .long x1)] [] (m, S) (some (.int r0)) (m, S)
  refine rsn 1 (t := (1, [(0, .ref x0), (1, .long x1)], [.long x1])) rfl ?_
  obtain ⟨r1, g1, h⟩ := b1_some h
  refine rcS 55 [.long x1] rfl rfl rfl (Nat.le_of_ble_eq_true rfl) rfl (e_State_cameOf N (by omega) g1) ?_
  show RN xs L al (Ev xs L al d) 90 4 [(0, .ref x0), (1, .long x1)] [.int r1] (m, S) (some (.int r0)) (m, S)
  obtain ⟨r2, g2, h⟩ := b1_some h
  refine rcS 91 [.int r1] rfl rfl rfl (Nat.le_of_ble_eq_true rfl) rfl (e_Integer_bitCount N (by omega) g2) ?_
  show RN xs L al (Ev xs L al d) 90 7 [(0, .ref x0), (1, .long x1)] [.int r2] (m, S) (some (.int r0)) (m, S)
  refine rsn 5 (t := (14, [(5, .int 0), (4, .int ((-1))), (3, .int r2), (0, .ref x0), (1, .long x1)], [])) rfl ?_
  have ex14 : ∀ (z17_4 : Int32) (z17_5 : Int32), (some z17_4) = some r0 → RN xs L al (Ev xs L al d) 90 128 [(4, .int z17_4)] [] (m, S) (some (.int r0)) (m, S) := by
    intro z17_4 z17_5 h
    try dsimp only at h
    refine rsn 1 (t := (130, [(4, .int z17_4)], [.int z17_4])) rfl ?_
    have h := Option.some.inj h
    subst h
    exact rret rfl ⟨rfl, rfl, _, _, rfl, rfl, rfl, rfl⟩
  have lp14 : ∀ (n : Nat) (y18_4 : Int32) (y18_5 : Int32), (f_Goals_leastShare_L14 N S x0 x1 r2 m (fun (z17_4 : Int32) (z17_5 : Int32) => some z17_4) n y18_4 y18_5) = some r0 → RN xs L al (Ev xs L al d) 90 14 [(0, .ref x0), (1, .long x1), (3, .int r2), (4, .int y18_4), (5, .int y18_5)] [] (m, S) (some (.int r0)) (m, S) := by
    intro n
    induction n with
    | zero => intro y18_4 y18_5 h; exact absurd h (by simp [f_Goals_leastShare_L14])
    | succ n14 ih14 =>
      intro y18_4 y18_5 h
      try dsimp only at h
      rw [f_Goals_leastShare_L14] at h
      try dsimp only at h
      refine rsn 2 (t := (17, [(0, .ref x0), (1, .long x1), (3, .int r2), (4, .int y18_4), (5, .int y18_5)], [.ref x0, .int y18_5])) rfl ?_
      refine pgI rfl rfl rfl (hSh.kW hx0 _) ?_
      show RN xs L al (Ev xs L al d) 90 20 [(0, .ref x0), (1, .long x1), (3, .int r2), (4, .int y18_4), (5, .int y18_5)] [.int ((mI m x0 0)), .int y18_5] (m, S) (some (.int r0)) (m, S)
      by_cases c19 : ((mI m x0 0)) ≤ y18_5
      · rw [if_pos c19] at h
        refine rjt (a := (128, [(0, .ref x0), (1, .long x1), (3, .int r2), (4, .int y18_4), (5, .int y18_5)], [])) (b := (23, [(0, .ref x0), (1, .long x1), (3, .int r2), (4, .int y18_4), (5, .int y18_5)], [])) rfl rfl c19 ?_
        exact rsub [(4, .int y18_4)] ⟨rfl, trivial⟩ ⟨rfl, trivial⟩ (ex14 y18_4 y18_5 h)
      · rw [if_neg c19] at h
        refine rjf (a := (128, [(0, .ref x0), (1, .long x1), (3, .int r2), (4, .int y18_4), (5, .int y18_5)], [])) (b := (23, [(0, .ref x0), (1, .long x1), (3, .int r2), (4, .int y18_4), (5, .int y18_5)], [])) rfl rfl c19 ?_
        refine rsn 2 (t := (26, [(0, .ref x0), (1, .long x1), (3, .int r2), (4, .int y18_4), (5, .int y18_5)], [.int y18_5, .long x1])) rfl ?_
        obtain ⟨r20, g20, h⟩ := b1_some h
        refine rcS 54 [.long x1, .int y18_5] rfl rfl rfl (Nat.le_of_ble_eq_true rfl) rfl (e_State_isThere N (by omega) g20) ?_
        show RN xs L al (Ev xs L al d) 90 29 [(0, .ref x0), (1, .long x1), (3, .int r2), (4, .int y18_4), (5, .int y18_5)] [.int r20] (m, S) (some (.int r0)) (m, S)
        by_cases c21 : r20 = 0
        · rw [if_pos c21] at h
          refine rjt (a := (122, [(0, .ref x0), (1, .long x1), (3, .int r2), (4, .int y18_4), (5, .int y18_5)], [])) (b := (32, [(0, .ref x0), (1, .long x1), (3, .int r2), (4, .int y18_4), (5, .int y18_5)], [])) rfl rfl c21 ?_
          refine rsn 2 (t := (14, [(5, .int ((y18_5 + 1))), (0, .ref x0), (1, .long x1), (3, .int r2), (4, .int y18_4)], [])) rfl ?_
          exact rsub [(0, .ref x0), (1, .long x1), (3, .int r2), (4, .int y18_4), (5, .int ((y18_5 + 1)))] ⟨rfl, ⟨rfl, ⟨rfl, ⟨rfl, ⟨rfl, trivial⟩⟩⟩⟩⟩ ⟨rfl, ⟨rfl, ⟨rfl, ⟨rfl, ⟨rfl, trivial⟩⟩⟩⟩⟩ (ih14 y18_4 ((y18_5 + 1)) h)
        · rw [if_neg c21] at h
          refine rjf (a := (122, [(0, .ref x0), (1, .long x1), (3, .int r2), (4, .int y18_4), (5, .int y18_5)], [])) (b := (32, [(0, .ref x0), (1, .long x1), (3, .int r2), (4, .int y18_4), (5, .int y18_5)], [])) rfl rfl c21 ?_
          refine rsn 4 (t := (38, [(7, .int 0), (6, .int 0), (0, .ref x0), (1, .long x1), (3, .int r2), (4, .int y18_4), (5, .int y18_5)], [])) rfl ?_
          have ex38 : ∀ (z24_6 : Int32) (z24_7 : Int32), (b1 (f_Will_valueOf N S x0 y18_5 x1 y18_5 m) fun r25 => (jn (fun (s26 : Int32) => (if y18_4 = ((-1)) then f_Goals_leastShare_L14 N S x0 x1 r2 m (fun (z17_4 : Int32) (z17_5 : Int32) => some z17_4) n14 s26 ((y18_5 + 1)) else f_Goals_leastShare_L14 N S x0 x1 r2 m (fun (z17_4 : Int32) (z17_5 : Int32) => some z17_4) n14 ((if s26 < y18_4 then s26 else y18_4)) ((y18_5 + 1)))) (fun j100 => if z24_6 = 0 then j100 1000 else ck (¬ z24_6 = 0) (j100 ((((((r25 * r2)) * 1000)) / z24_6)))))) = some r0 → RN xs L al (Ev xs L al d) 90 67 [(0, .ref x0), (1, .long x1), (3, .int r2), (4, .int y18_4), (5, .int y18_5), (6, .int z24_6)] [] (m, S) (some (.int r0)) (m, S) := by
            intro z24_6 z24_7 h
            try dsimp only at h
            refine rsn 4 (t := (73, [(0, .ref x0), (1, .long x1), (3, .int r2), (4, .int y18_4), (5, .int y18_5), (6, .int z24_6)], [.int y18_5, .long x1, .int y18_5, .ref x0])) rfl ?_
            obtain ⟨r25, g25, h⟩ := b1_some h
            refine rcV 58 x0 [.int y18_5, .long x1, .int y18_5] rfl rfl rfl (hSh.kW hx0 _) (Nat.le_of_ble_eq_true rfl) rfl (e_Will_valueOf N (by omega) hSh hx0 g25) ?_
            show RN xs L al (Ev xs L al d) 90 76 [(0, .ref x0), (1, .long x1), (3, .int r2), (4, .int y18_4), (5, .int y18_5), (6, .int z24_6)] [.int r25] (m, S) (some (.int r0)) (m, S)
            refine rsn 2 (t := (80, [(7, .int r25), (0, .ref x0), (1, .long x1), (3, .int r2), (4, .int y18_4), (5, .int y18_5), (6, .int z24_6)], [.int z24_6])) rfl ?_
            have jp100 : ∀ (s26 : Int32), ((if y18_4 = ((-1)) then f_Goals_leastShare_L14 N S x0 x1 r2 m (fun (z17_4 : Int32) (z17_5 : Int32) => some z17_4) n14 s26 ((y18_5 + 1)) else f_Goals_leastShare_L14 N S x0 x1 r2 m (fun (z17_4 : Int32) (z17_5 : Int32) => some z17_4) n14 ((if s26 < y18_4 then s26 else y18_4)) ((y18_5 + 1)))) = some r0 → RN xs L al (Ev xs L al d) 90 100 [(0, .ref x0), (1, .long x1), (3, .int r2), (4, .int y18_4), (5, .int y18_5)] [.int s26] (m, S) (some (.int r0)) (m, S) := by
              intro s26 h
              try dsimp only at h
              refine rsn 3 (t := (105, [(8, .int s26), (0, .ref x0), (1, .long x1), (3, .int r2), (4, .int y18_4), (5, .int y18_5)], [.int ((-1)), .int y18_4])) rfl ?_
              by_cases c27 : y18_4 = ((-1))
              · rw [if_pos c27] at h
                refine rjf (a := (113, [(8, .int s26), (0, .ref x0), (1, .long x1), (3, .int r2), (4, .int y18_4), (5, .int y18_5)], [])) (b := (108, [(8, .int s26), (0, .ref x0), (1, .long x1), (3, .int r2), (4, .int y18_4), (5, .int y18_5)], [])) rfl rfl (fun q => q c27) ?_
                refine rsn 5 (t := (14, [(5, .int ((y18_5 + 1))), (4, .int s26), (8, .int s26), (0, .ref x0), (1, .long x1), (3, .int r2)], [])) rfl ?_
                exact rsub [(0, .ref x0), (1, .long x1), (3, .int r2), (4, .int s26), (5, .int ((y18_5 + 1)))] ⟨rfl, ⟨rfl, ⟨rfl, ⟨rfl, ⟨rfl, trivial⟩⟩⟩⟩⟩ ⟨rfl, ⟨rfl, ⟨rfl, ⟨rfl, ⟨rfl, trivial⟩⟩⟩⟩⟩ (ih14 s26 ((y18_5 + 1)) h)
              · rw [if_neg c27] at h
                refine rjt (a := (113, [(8, .int s26), (0, .ref x0), (1, .long x1), (3, .int r2), (4, .int y18_4), (5, .int y18_5)], [])) (b := (108, [(8, .int s26), (0, .ref x0), (1, .long x1), (3, .int r2), (4, .int y18_4), (5, .int y18_5)], [])) rfl rfl c27 ?_
                refine rsn 2 (t := (117, [(8, .int s26), (0, .ref x0), (1, .long x1), (3, .int r2), (4, .int y18_4), (5, .int y18_5)], [.int s26, .int y18_4])) rfl ?_
                refine rm (st1 := [.int ((if s26 < y18_4 then s26 else y18_4))]) rfl ⟨rfl, rfl, 2, [], rfl, Nat.le_of_ble_eq_true rfl, Or.inr (Or.inr (Or.inl ⟨rfl, _, _, rfl, rfl⟩))⟩ ?_
                refine rsn 3 (t := (14, [(5, .int ((y18_5 + 1))), (4, .int ((if s26 < y18_4 then s26 else y18_4))), (8, .int s26), (0, .ref x0), (1, .long x1), (3, .int r2)], [])) rfl ?_
                exact rsub [(0, .ref x0), (1, .long x1), (3, .int r2), (4, .int ((if s26 < y18_4 then s26 else y18_4))), (5, .int ((y18_5 + 1)))] ⟨rfl, ⟨rfl, ⟨rfl, ⟨rfl, ⟨rfl, trivial⟩⟩⟩⟩⟩ ⟨rfl, ⟨rfl, ⟨rfl, ⟨rfl, ⟨rfl, trivial⟩⟩⟩⟩⟩ (ih14 ((if s26 < y18_4 then s26 else y18_4)) ((y18_5 + 1)) h)
            rw [jn] at h
            try dsimp only at h
            by_cases c28 : z24_6 = 0
            · rw [if_pos c28] at h
              refine rjf (a := (89, [(7, .int r25), (0, .ref x0), (1, .long x1), (3, .int r2), (4, .int y18_4), (5, .int y18_5), (6, .int z24_6)], [])) (b := (83, [(7, .int r25), (0, .ref x0), (1, .long x1), (3, .int r2), (4, .int y18_4), (5, .int y18_5), (6, .int z24_6)], [])) rfl rfl (fun q => q c28) ?_
              refine rsn 2 (t := (100, [(7, .int r25), (0, .ref x0), (1, .long x1), (3, .int r2), (4, .int y18_4), (5, .int y18_5), (6, .int z24_6)], [.int 1000])) rfl ?_
              exact rsub [(0, .ref x0), (1, .long x1), (3, .int r2), (4, .int y18_4), (5, .int y18_5)] ⟨rfl, ⟨rfl, ⟨rfl, ⟨rfl, ⟨rfl, trivial⟩⟩⟩⟩⟩ ⟨rfl, ⟨rfl, ⟨rfl, ⟨rfl, ⟨rfl, trivial⟩⟩⟩⟩⟩ (jp100 1000 h)
            · rw [if_neg c28] at h
              refine rjt (a := (89, [(7, .int r25), (0, .ref x0), (1, .long x1), (3, .int r2), (4, .int y18_4), (5, .int y18_5), (6, .int z24_6)], [])) (b := (83, [(7, .int r25), (0, .ref x0), (1, .long x1), (3, .int r2), (4, .int y18_4), (5, .int y18_5), (6, .int z24_6)], [])) rfl rfl c28 ?_
              refine rsn 6 (t := (99, [(7, .int r25), (0, .ref x0), (1, .long x1), (3, .int r2), (4, .int y18_4), (5, .int y18_5), (6, .int z24_6)], [.int z24_6, .int ((((r25 * r2)) * 1000))])) rfl ?_
              obtain ⟨c29, h⟩ := ck_some h
              refine rs (t := (100, [(7, .int r25), (0, .ref x0), (1, .long x1), (3, .int r2), (4, .int y18_4), (5, .int y18_5), (6, .int z24_6)], [.int ((((((r25 * r2)) * 1000)) / z24_6))])) rfl (by simp [stp, nxt, dI, c29, irm, lrm]) ?_
              exact rsub [(0, .ref x0), (1, .long x1), (3, .int r2), (4, .int y18_4), (5, .int y18_5)] ⟨rfl, ⟨rfl, ⟨rfl, ⟨rfl, ⟨rfl, trivial⟩⟩⟩⟩⟩ ⟨rfl, ⟨rfl, ⟨rfl, ⟨rfl, ⟨rfl, trivial⟩⟩⟩⟩⟩ (jp100 ((((((r25 * r2)) * 1000)) / z24_6)) h)
          have lp38 : ∀ (n : Nat) (y30_6 : Int32) (y30_7 : Int32), (f_Goals_leastShare_L38 N S x0 x1 r2 y18_4 y18_5 m (fun (z24_6 : Int32) (z24_7 : Int32) => b1 (f_Will_valueOf N S x0 y18_5 x1 y18_5 m) fun r25 => (jn (fun (s26 : Int32) => (if y18_4 = ((-1)) then f_Goals_leastShare_L14 N S x0 x1 r2 m (fun (z17_4 : Int32) (z17_5 : Int32) => some z17_4) n14 s26 ((y18_5 + 1)) else f_Goals_leastShare_L14 N S x0 x1 r2 m (fun (z17_4 : Int32) (z17_5 : Int32) => some z17_4) n14 ((if s26 < y18_4 then s26 else y18_4)) ((y18_5 + 1)))) (fun j100 => if z24_6 = 0 then j100 1000 else ck (¬ z24_6 = 0) (j100 ((((((r25 * r2)) * 1000)) / z24_6)))))) n y30_6 y30_7) = some r0 → RN xs L al (Ev xs L al d) 90 38 [(0, .ref x0), (1, .long x1), (3, .int r2), (4, .int y18_4), (5, .int y18_5), (6, .int y30_6), (7, .int y30_7)] [] (m, S) (some (.int r0)) (m, S) := by
            intro n
            induction n with
            | zero => intro y30_6 y30_7 h; exact absurd h (by simp [f_Goals_leastShare_L38])
            | succ n38 ih38 =>
              intro y30_6 y30_7 h
              try dsimp only at h
              rw [f_Goals_leastShare_L38] at h
              try dsimp only at h
              refine rsn 2 (t := (41, [(0, .ref x0), (1, .long x1), (3, .int r2), (4, .int y18_4), (5, .int y18_5), (6, .int y30_6), (7, .int y30_7)], [.ref x0, .int y30_7])) rfl ?_
              refine pgI rfl rfl rfl (hSh.kW hx0 _) ?_
              show RN xs L al (Ev xs L al d) 90 44 [(0, .ref x0), (1, .long x1), (3, .int r2), (4, .int y18_4), (5, .int y18_5), (6, .int y30_6), (7, .int y30_7)] [.int ((mI m x0 0)), .int y30_7] (m, S) (some (.int r0)) (m, S)
              by_cases c31 : ((mI m x0 0)) ≤ y30_7
              · rw [if_pos c31] at h
                refine rjt (a := (67, [(0, .ref x0), (1, .long x1), (3, .int r2), (4, .int y18_4), (5, .int y18_5), (6, .int y30_6), (7, .int y30_7)], [])) (b := (47, [(0, .ref x0), (1, .long x1), (3, .int r2), (4, .int y18_4), (5, .int y18_5), (6, .int y30_6), (7, .int y30_7)], [])) rfl rfl c31 ?_
                exact rsub [(0, .ref x0), (1, .long x1), (3, .int r2), (4, .int y18_4), (5, .int y18_5), (6, .int y30_6)] ⟨rfl, ⟨rfl, ⟨rfl, ⟨rfl, ⟨rfl, ⟨rfl, trivial⟩⟩⟩⟩⟩⟩ ⟨rfl, ⟨rfl, ⟨rfl, ⟨rfl, ⟨rfl, ⟨rfl, trivial⟩⟩⟩⟩⟩⟩ (ex38 y30_6 y30_7 h)
              · rw [if_neg c31] at h
                refine rjf (a := (67, [(0, .ref x0), (1, .long x1), (3, .int r2), (4, .int y18_4), (5, .int y18_5), (6, .int y30_6), (7, .int y30_7)], [])) (b := (47, [(0, .ref x0), (1, .long x1), (3, .int r2), (4, .int y18_4), (5, .int y18_5), (6, .int y30_6), (7, .int y30_7)], [])) rfl rfl c31 ?_
                refine rsn 5 (t := (55, [(0, .ref x0), (1, .long x1), (3, .int r2), (4, .int y18_4), (5, .int y18_5), (6, .int y30_6), (7, .int y30_7)], [.int y30_7, .long x1, .int y18_5, .ref x0, .int y30_6])) rfl ?_
                obtain ⟨r32, g32, h⟩ := b1_some h
                refine rcV 58 x0 [.int y18_5, .long x1, .int y30_7] rfl rfl rfl (hSh.kW hx0 _) (Nat.le_of_ble_eq_true rfl) rfl (e_Will_valueOf N (by omega) hSh hx0 g32) ?_
                show RN xs L al (Ev xs L al d) 90 58 [(0, .ref x0), (1, .long x1), (3, .int r2), (4, .int y18_4), (5, .int y18_5), (6, .int y30_6), (7, .int y30_7)] [.int r32, .int y30_6] (m, S) (some (.int r0)) (m, S)
                refine rsn 4 (t := (38, [(7, .int ((y30_7 + 1))), (6, .int ((y30_6 + r32))), (0, .ref x0), (1, .long x1), (3, .int r2), (4, .int y18_4), (5, .int y18_5)], [])) rfl ?_
                exact rsub [(0, .ref x0), (1, .long x1), (3, .int r2), (4, .int y18_4), (5, .int y18_5), (6, .int ((y30_6 + r32))), (7, .int ((y30_7 + 1)))] ⟨rfl, ⟨rfl, ⟨rfl, ⟨rfl, ⟨rfl, ⟨rfl, ⟨rfl, trivial⟩⟩⟩⟩⟩⟩⟩ ⟨rfl, ⟨rfl, ⟨rfl, ⟨rfl, ⟨rfl, ⟨rfl, ⟨rfl, trivial⟩⟩⟩⟩⟩⟩⟩ (ih38 ((y30_6 + r32)) ((y30_7 + 1)) h)
          exact rsub [(0, .ref x0), (1, .long x1), (3, .int r2), (4, .int y18_4), (5, .int y18_5), (6, .int 0), (7, .int 0)] ⟨rfl, ⟨rfl, ⟨rfl, ⟨rfl, ⟨rfl, ⟨rfl, ⟨rfl, trivial⟩⟩⟩⟩⟩⟩⟩ ⟨rfl, ⟨rfl, ⟨rfl, ⟨rfl, ⟨rfl, ⟨rfl, ⟨rfl, trivial⟩⟩⟩⟩⟩⟩⟩ (lp38 N 0 0 h)
  exact rsub [(0, .ref x0), (1, .long x1), (3, .int r2), (4, .int ((-1))), (5, .int 0)] ⟨rfl, ⟨rfl, ⟨rfl, ⟨rfl, ⟨rfl, trivial⟩⟩⟩⟩⟩ ⟨rfl, ⟨rfl, ⟨rfl, ⟨rfl, ⟨rfl, trivial⟩⟩⟩⟩⟩ (lp14 N ((-1)) 0 h)
def f_Goals_leftOut_L42 (N : Nat) (S : St) (x0 : Nat) (x3 : Int32) (x4 : Int32) (x5 : Int32) (x6 : Int64) (x8 : Int32) (m : Mm) (k42 : Int32 → Int32 → Option (Int32)) : Nat → Int32 → Int32 → Option (Int32)
  | 0, _, _ => none
  | n42 + 1, x9, x10 => (if 3 ≤ x10 then k42 x9 x10 else b1 (f_State_amount N x6 x10 x4) fun r6 => (if r6 ≤ 0 then f_Goals_leftOut_L42 N S x0 x3 x4 x5 x6 x8 m k42 n42 x9 ((x10 + 1)) else (if x9 = ((-1)) then f_Goals_leftOut_L42 N S x0 x3 x4 x5 x6 x8 m k42 n42 x10 ((x10 + 1)) else b1 (f_Will_worth N S x0 x3 x10 m) fun r9 => b1 (f_Will_worth N S x0 x3 x9 m) fun r10 => (if r9 ≤ r10 then f_Goals_leftOut_L42 N S x0 x3 x4 x5 x6 x8 m k42 n42 x9 ((x10 + 1)) else f_Goals_leftOut_L42 N S x0 x3 x4 x5 x6 x8 m k42 n42 x10 ((x10 + 1))))))
def f_Goals_leftOut_L24 (N : Nat) (S : St) (x0 : Nat) (x3 : Int32) (x4 : Int32) (m : Mm) (k24 : Int32 → Int64 → Int32 → Option (Int32)) : Nat → Int32 → Int64 → Int32 → Option (Int32)
  | 0, _, _, _ => none
  | n24 + 1, x5, x6, x8 => (if x5 ≤ 0 then k24 x5 x6 x8 else (if 6 ≤ x8 then k24 x5 x6 x8 else f_Goals_leftOut_L42 N S x0 x3 x4 x5 x6 x8 m (fun (z12_9 : Int32) (z12_10 : Int32) => (if z12_9 = ((-1)) then some x8 else b1 (f_State_one N z12_9 x4) fun r14 => b1 (f_Will_worth N S x0 x3 z12_9 m) fun r15 => f_Goals_leftOut_L24 N S x0 x3 x4 m k24 n24 ((x5 - r15)) ((x6 - r14)) ((x8 + 1)))) N ((-1)) 0))
def f_Goals_leftOut (N : Nat) (S : St) (x0 : Nat) (x1 : Int64) (x3 : Int32) (x4 : Int32) (m : Mm) : Option (Int32) := b1 (f_Will_valueOf N S x0 x3 x1 x4 m) fun r1 => b1 (f_Will_valueOf N S x0 x3 x1 x3 m) fun r2 => f_Goals_leftOut_L24 N S x0 x3 x4 m (fun (z24_5 : Int32) (z24_6 : Int64) (z24_8 : Int32) => some z24_8) N ((r1 - r2)) x1 0
set_option maxRecDepth 20000 in
set_option maxHeartbeats 4000000 in
theorem e_Goals_leftOut {xs : Nat → Int32} {L : Nat} {al : Bool} (N : Nat) {d : Nat} (hd : 2 ≤ d) {S : St} (hSh : ShC S) {x0 : Nat} {x1 : Int64} {x3 : Int32} {x4 : Int32} (hx0 : x0 ∈ wKl) {m : Mm} {r0 : Int32} (h : f_Goals_leftOut N S x0 x1 x3 x4 m = some r0) : Ev xs L al d 93 [.ref x0, .long x1, .int x3, .int x4] (m, S) (some (.int r0)) (m, S) := by
  obtain ⟨d, rfl⟩ : ∃ e, d = e + 1 := ⟨d - 1, by omega⟩
  refine ev_of (by decide) (Nat.le_of_ble_eq_true rfl) ?_
  rw [f_Goals_leftOut] at h
  show RN xs L al (Ev xs L al d) 93 0 [(0, .ref x0), (1, .long x1), (3, .int x3), (4, .int x4)] [] (m, S) (some (.int r0)) (m, S)
  refine rsn 4 (t := (5, [(0, .ref x0), (1, .long x1), (3, .int x3), (4, .int x4)], [.int x4, .long x1, .int x3, .ref x0])) rfl ?_
  obtain ⟨r1, g1, h⟩ := b1_some h
  refine rcV 58 x0 [.int x3, .long x1, .int x4] rfl rfl rfl (hSh.kW hx0 _) (Nat.le_of_ble_eq_true rfl) rfl (e_Will_valueOf N (by omega) hSh hx0 g1) ?_
  show RN xs L al (Ev xs L al d) 93 8 [(0, .ref x0), (1, .long x1), (3, .int x3), (4, .int x4)] [.int r1] (m, S) (some (.int r0)) (m, S)
  refine rsn 4 (t := (12, [(0, .ref x0), (1, .long x1), (3, .int x3), (4, .int x4)], [.int x3, .long x1, .int x3, .ref x0, .int r1])) rfl ?_
  obtain ⟨r2, g2, h⟩ := b1_some h
  refine rcV 58 x0 [.int x3, .long x1, .int x3] rfl rfl rfl (hSh.kW hx0 _) (Nat.le_of_ble_eq_true rfl) rfl (e_Will_valueOf N (by omega) hSh hx0 g2) ?_
  show RN xs L al (Ev xs L al d) 93 15 [(0, .ref x0), (1, .long x1), (3, .int x3), (4, .int x4)] [.int r2, .int r1] (m, S) (some (.int r0)) (m, S)
  refine rsn 6 (t := (24, [(8, .int 0), (6, .long x1), (5, .int ((r1 - r2))), (0, .ref x0), (1, .long x1), (3, .int x3), (4, .int x4)], [])) rfl ?_
  have ex24 : ∀ (z24_5 : Int32) (z24_6 : Int64) (z24_8 : Int32), (some z24_8) = some r0 → RN xs L al (Ev xs L al d) 93 132 [(8, .int z24_8)] [] (m, S) (some (.int r0)) (m, S) := by
    intro z24_5 z24_6 z24_8 h
    try dsimp only at h
    refine rsn 1 (t := (134, [(8, .int z24_8)], [.int z24_8])) rfl ?_
    have h := Option.some.inj h
    subst h
    exact rret rfl ⟨rfl, rfl, _, _, rfl, rfl, rfl, rfl⟩
  have lp24 : ∀ (n : Nat) (y25_5 : Int32) (y25_6 : Int64) (y25_8 : Int32), (f_Goals_leftOut_L24 N S x0 x3 x4 m (fun (z24_5 : Int32) (z24_6 : Int64) (z24_8 : Int32) => some z24_8) n y25_5 y25_6 y25_8) = some r0 → RN xs L al (Ev xs L al d) 93 24 [(0, .ref x0), (3, .int x3), (4, .int x4), (5, .int y25_5), (6, .long y25_6), (8, .int y25_8)] [] (m, S) (some (.int r0)) (m, S) := by
    intro n
    induction n with
    | zero => intro y25_5 y25_6 y25_8 h; exact absurd h (by simp [f_Goals_leftOut_L24])
    | succ n24 ih24 =>
      intro y25_5 y25_6 y25_8 h
      try dsimp only at h
      rw [f_Goals_leftOut_L24] at h
      try dsimp only at h
      refine rsn 1 (t := (26, [(0, .ref x0), (3, .int x3), (4, .int x4), (5, .int y25_5), (6, .long y25_6), (8, .int y25_8)], [.int y25_5])) rfl ?_
      by_cases c26 : y25_5 ≤ 0
      · rw [if_pos c26] at h
        refine rjt (a := (132, [(0, .ref x0), (3, .int x3), (4, .int x4), (5, .int y25_5), (6, .long y25_6), (8, .int y25_8)], [])) (b := (29, [(0, .ref x0), (3, .int x3), (4, .int x4), (5, .int y25_5), (6, .long y25_6), (8, .int y25_8)], [])) rfl rfl c26 ?_
        exact rsub [(8, .int y25_8)] ⟨rfl, trivial⟩ ⟨rfl, trivial⟩ (ex24 y25_5 y25_6 y25_8 h)
      · rw [if_neg c26] at h
        refine rjf (a := (132, [(0, .ref x0), (3, .int x3), (4, .int x4), (5, .int y25_5), (6, .long y25_6), (8, .int y25_8)], [])) (b := (29, [(0, .ref x0), (3, .int x3), (4, .int x4), (5, .int y25_5), (6, .long y25_6), (8, .int y25_8)], [])) rfl rfl c26 ?_
        refine rsn 2 (t := (33, [(0, .ref x0), (3, .int x3), (4, .int x4), (5, .int y25_5), (6, .long y25_6), (8, .int y25_8)], [.int 6, .int y25_8])) rfl ?_
        by_cases c27 : 6 ≤ y25_8
        · rw [if_pos c27] at h
          refine rjt (a := (132, [(0, .ref x0), (3, .int x3), (4, .int x4), (5, .int y25_5), (6, .long y25_6), (8, .int y25_8)], [])) (b := (36, [(0, .ref x0), (3, .int x3), (4, .int x4), (5, .int y25_5), (6, .long y25_6), (8, .int y25_8)], [])) rfl rfl c27 ?_
          exact rsub [(8, .int y25_8)] ⟨rfl, trivial⟩ ⟨rfl, trivial⟩ (ex24 y25_5 y25_6 y25_8 h)
        · rw [if_neg c27] at h
          refine rjf (a := (132, [(0, .ref x0), (3, .int x3), (4, .int x4), (5, .int y25_5), (6, .long y25_6), (8, .int y25_8)], [])) (b := (36, [(0, .ref x0), (3, .int x3), (4, .int x4), (5, .int y25_5), (6, .long y25_6), (8, .int y25_8)], [])) rfl rfl c27 ?_
          refine rsn 4 (t := (42, [(10, .int 0), (9, .int ((-1))), (0, .ref x0), (3, .int x3), (4, .int x4), (5, .int y25_5), (6, .long y25_6), (8, .int y25_8)], [])) rfl ?_
          have ex42 : ∀ (z35_9 : Int32) (z35_10 : Int32), ((if z35_9 = ((-1)) then some y25_8 else b1 (f_State_one N z35_9 x4) fun r37 => b1 (f_Will_worth N S x0 x3 z35_9 m) fun r38 => f_Goals_leftOut_L24 N S x0 x3 x4 m (fun (z24_5 : Int32) (z24_6 : Int64) (z24_8 : Int32) => some z24_8) n24 ((y25_5 - r38)) ((y25_6 - r37)) ((y25_8 + 1)))) = some r0 → RN xs L al (Ev xs L al d) 93 93 [(0, .ref x0), (3, .int x3), (4, .int x4), (5, .int y25_5), (6, .long y25_6), (8, .int y25_8), (9, .int z35_9)] [] (m, S) (some (.int r0)) (m, S) := by
            intro z35_9 z35_10 h
            try dsimp only at h
            refine rsn 2 (t := (96, [(0, .ref x0), (3, .int x3), (4, .int x4), (5, .int y25_5), (6, .long y25_6), (8, .int y25_8), (9, .int z35_9)], [.int ((-1)), .int z35_9])) rfl ?_
            by_cases c36 : z35_9 = ((-1))
            · rw [if_pos c36] at h
              refine rjf (a := (102, [(0, .ref x0), (3, .int x3), (4, .int x4), (5, .int y25_5), (6, .long y25_6), (8, .int y25_8), (9, .int z35_9)], [])) (b := (99, [(0, .ref x0), (3, .int x3), (4, .int x4), (5, .int y25_5), (6, .long y25_6), (8, .int y25_8), (9, .int z35_9)], [])) rfl rfl (fun q => q c36) ?_
              refine rsn 1 (t := (101, [(0, .ref x0), (3, .int x3), (4, .int x4), (5, .int y25_5), (6, .long y25_6), (8, .int y25_8), (9, .int z35_9)], [.int y25_8])) rfl ?_
              have h := Option.some.inj h
              subst h
              exact rret rfl ⟨rfl, rfl, _, _, rfl, rfl, rfl, rfl⟩
            · rw [if_neg c36] at h
              refine rjt (a := (102, [(0, .ref x0), (3, .int x3), (4, .int x4), (5, .int y25_5), (6, .long y25_6), (8, .int y25_8), (9, .int z35_9)], [])) (b := (99, [(0, .ref x0), (3, .int x3), (4, .int x4), (5, .int y25_5), (6, .long y25_6), (8, .int y25_8), (9, .int z35_9)], [])) rfl rfl c36 ?_
              refine rsn 3 (t := (108, [(0, .ref x0), (3, .int x3), (4, .int x4), (5, .int y25_5), (6, .long y25_6), (8, .int y25_8), (9, .int z35_9)], [.int x4, .int z35_9, .long y25_6])) rfl ?_
              obtain ⟨r37, g37, h⟩ := b1_some h
              refine rcS 71 [.int z35_9, .int x4] rfl rfl rfl (Nat.le_of_ble_eq_true rfl) rfl (e_State_one N (by omega) g37) ?_
              show RN xs L al (Ev xs L al d) 93 111 [(0, .ref x0), (3, .int x3), (4, .int x4), (5, .int y25_5), (6, .long y25_6), (8, .int y25_8), (9, .int z35_9)] [.long r37, .long y25_6] (m, S) (some (.int r0)) (m, S)
              refine rsn 6 (t := (120, [(6, .long ((y25_6 - r37))), (0, .ref x0), (3, .int x3), (4, .int x4), (5, .int y25_5), (8, .int y25_8), (9, .int z35_9)], [.int z35_9, .int x3, .ref x0, .int y25_5])) rfl ?_
              obtain ⟨r38, g38, h⟩ := b1_some h
              refine rcV 56 x0 [.int x3, .int z35_9] rfl rfl rfl (hSh.kW hx0 _) (Nat.le_of_ble_eq_true rfl) rfl (e_Will_worth N (by omega) hSh hx0 g38) ?_
              show RN xs L al (Ev xs L al d) 93 123 [(6, .long ((y25_6 - r37))), (0, .ref x0), (3, .int x3), (4, .int x4), (5, .int y25_5), (8, .int y25_8), (9, .int z35_9)] [.int r38, .int y25_5] (m, S) (some (.int r0)) (m, S)
              refine rsn 4 (t := (24, [(8, .int ((y25_8 + 1))), (5, .int ((y25_5 - r38))), (6, .long ((y25_6 - r37))), (0, .ref x0), (3, .int x3), (4, .int x4), (9, .int z35_9)], [])) rfl ?_
              exact rsub [(0, .ref x0), (3, .int x3), (4, .int x4), (5, .int ((y25_5 - r38))), (6, .long ((y25_6 - r37))), (8, .int ((y25_8 + 1)))] ⟨rfl, ⟨rfl, ⟨rfl, ⟨rfl, ⟨rfl, ⟨rfl, trivial⟩⟩⟩⟩⟩⟩ ⟨rfl, ⟨rfl, ⟨rfl, ⟨rfl, ⟨rfl, ⟨rfl, trivial⟩⟩⟩⟩⟩⟩ (ih24 ((y25_5 - r38)) ((y25_6 - r37)) ((y25_8 + 1)) h)
          have lp42 : ∀ (n : Nat) (y39_9 : Int32) (y39_10 : Int32), (f_Goals_leftOut_L42 N S x0 x3 x4 y25_5 y25_6 y25_8 m (fun (z35_9 : Int32) (z35_10 : Int32) => (if z35_9 = ((-1)) then some y25_8 else b1 (f_State_one N z35_9 x4) fun r37 => b1 (f_Will_worth N S x0 x3 z35_9 m) fun r38 => f_Goals_leftOut_L24 N S x0 x3 x4 m (fun (z24_5 : Int32) (z24_6 : Int64) (z24_8 : Int32) => some z24_8) n24 ((y25_5 - r38)) ((y25_6 - r37)) ((y25_8 + 1)))) n y39_9 y39_10) = some r0 → RN xs L al (Ev xs L al d) 93 42 [(0, .ref x0), (3, .int x3), (4, .int x4), (5, .int y25_5), (6, .long y25_6), (8, .int y25_8), (9, .int y39_9), (10, .int y39_10)] [] (m, S) (some (.int r0)) (m, S) := by
            intro n
            induction n with
            | zero => intro y39_9 y39_10 h; exact absurd h (by simp [f_Goals_leftOut_L42])
            | succ n42 ih42 =>
              intro y39_9 y39_10 h
              try dsimp only at h
              rw [f_Goals_leftOut_L42] at h
              try dsimp only at h
              refine rsn 2 (t := (45, [(0, .ref x0), (3, .int x3), (4, .int x4), (5, .int y25_5), (6, .long y25_6), (8, .int y25_8), (9, .int y39_9), (10, .int y39_10)], [.int 3, .int y39_10])) rfl ?_
              by_cases c40 : 3 ≤ y39_10
              · rw [if_pos c40] at h
                refine rjt (a := (93, [(0, .ref x0), (3, .int x3), (4, .int x4), (5, .int y25_5), (6, .long y25_6), (8, .int y25_8), (9, .int y39_9), (10, .int y39_10)], [])) (b := (48, [(0, .ref x0), (3, .int x3), (4, .int x4), (5, .int y25_5), (6, .long y25_6), (8, .int y25_8), (9, .int y39_9), (10, .int y39_10)], [])) rfl rfl c40 ?_
                exact rsub [(0, .ref x0), (3, .int x3), (4, .int x4), (5, .int y25_5), (6, .long y25_6), (8, .int y25_8), (9, .int y39_9)] ⟨rfl, ⟨rfl, ⟨rfl, ⟨rfl, ⟨rfl, ⟨rfl, ⟨rfl, trivial⟩⟩⟩⟩⟩⟩⟩ ⟨rfl, ⟨rfl, ⟨rfl, ⟨rfl, ⟨rfl, ⟨rfl, ⟨rfl, trivial⟩⟩⟩⟩⟩⟩⟩ (ex42 y39_9 y39_10 h)
              · rw [if_neg c40] at h
                refine rjf (a := (93, [(0, .ref x0), (3, .int x3), (4, .int x4), (5, .int y25_5), (6, .long y25_6), (8, .int y25_8), (9, .int y39_9), (10, .int y39_10)], [])) (b := (48, [(0, .ref x0), (3, .int x3), (4, .int x4), (5, .int y25_5), (6, .long y25_6), (8, .int y25_8), (9, .int y39_9), (10, .int y39_10)], [])) rfl rfl c40 ?_
                refine rsn 3 (t := (54, [(0, .ref x0), (3, .int x3), (4, .int x4), (5, .int y25_5), (6, .long y25_6), (8, .int y25_8), (9, .int y39_9), (10, .int y39_10)], [.int x4, .int y39_10, .long y25_6])) rfl ?_
                obtain ⟨r41, g41, h⟩ := b1_some h
                refine rcS 57 [.long y25_6, .int y39_10, .int x4] rfl rfl rfl (Nat.le_of_ble_eq_true rfl) rfl (e_State_amount N (by omega) g41) ?_
                show RN xs L al (Ev xs L al d) 93 57 [(0, .ref x0), (3, .int x3), (4, .int x4), (5, .int y25_5), (6, .long y25_6), (8, .int y25_8), (9, .int y39_9), (10, .int y39_10)] [.int r41] (m, S) (some (.int r0)) (m, S)
                by_cases c42 : r41 ≤ 0
                · rw [if_pos c42] at h
                  refine rjt (a := (87, [(0, .ref x0), (3, .int x3), (4, .int x4), (5, .int y25_5), (6, .long y25_6), (8, .int y25_8), (9, .int y39_9), (10, .int y39_10)], [])) (b := (60, [(0, .ref x0), (3, .int x3), (4, .int x4), (5, .int y25_5), (6, .long y25_6), (8, .int y25_8), (9, .int y39_9), (10, .int y39_10)], [])) rfl rfl c42 ?_
                  refine rsn 2 (t := (42, [(10, .int ((y39_10 + 1))), (0, .ref x0), (3, .int x3), (4, .int x4), (5, .int y25_5), (6, .long y25_6), (8, .int y25_8), (9, .int y39_9)], [])) rfl ?_
                  exact rsub [(0, .ref x0), (3, .int x3), (4, .int x4), (5, .int y25_5), (6, .long y25_6), (8, .int y25_8), (9, .int y39_9), (10, .int ((y39_10 + 1)))] ⟨rfl, ⟨rfl, ⟨rfl, ⟨rfl, ⟨rfl, ⟨rfl, ⟨rfl, ⟨rfl, trivial⟩⟩⟩⟩⟩⟩⟩⟩ ⟨rfl, ⟨rfl, ⟨rfl, ⟨rfl, ⟨rfl, ⟨rfl, ⟨rfl, ⟨rfl, trivial⟩⟩⟩⟩⟩⟩⟩⟩ (ih42 y39_9 ((y39_10 + 1)) h)
                · rw [if_neg c42] at h
                  refine rjf (a := (87, [(0, .ref x0), (3, .int x3), (4, .int x4), (5, .int y25_5), (6, .long y25_6), (8, .int y25_8), (9, .int y39_9), (10, .int y39_10)], [])) (b := (60, [(0, .ref x0), (3, .int x3), (4, .int x4), (5, .int y25_5), (6, .long y25_6), (8, .int y25_8), (9, .int y39_9), (10, .int y39_10)], [])) rfl rfl c42 ?_
                  refine rsn 2 (t := (63, [(0, .ref x0), (3, .int x3), (4, .int x4), (5, .int y25_5), (6, .long y25_6), (8, .int y25_8), (9, .int y39_9), (10, .int y39_10)], [.int ((-1)), .int y39_9])) rfl ?_
                  by_cases c43 : y39_9 = ((-1))
                  · rw [if_pos c43] at h
                    refine rjt (a := (83, [(0, .ref x0), (3, .int x3), (4, .int x4), (5, .int y25_5), (6, .long y25_6), (8, .int y25_8), (9, .int y39_9), (10, .int y39_10)], [])) (b := (66, [(0, .ref x0), (3, .int x3), (4, .int x4), (5, .int y25_5), (6, .long y25_6), (8, .int y25_8), (9, .int y39_9), (10, .int y39_10)], [])) rfl rfl c43 ?_
                    refine rsn 4 (t := (42, [(10, .int ((y39_10 + 1))), (9, .int y39_10), (0, .ref x0), (3, .int x3), (4, .int x4), (5, .int y25_5), (6, .long y25_6), (8, .int y25_8)], [])) rfl ?_
                    exact rsub [(0, .ref x0), (3, .int x3), (4, .int x4), (5, .int y25_5), (6, .long y25_6), (8, .int y25_8), (9, .int y39_10), (10, .int ((y39_10 + 1)))] ⟨rfl, ⟨rfl, ⟨rfl, ⟨rfl, ⟨rfl, ⟨rfl, ⟨rfl, ⟨rfl, trivial⟩⟩⟩⟩⟩⟩⟩⟩ ⟨rfl, ⟨rfl, ⟨rfl, ⟨rfl, ⟨rfl, ⟨rfl, ⟨rfl, ⟨rfl, trivial⟩⟩⟩⟩⟩⟩⟩⟩ (ih42 y39_10 ((y39_10 + 1)) h)
                  · rw [if_neg c43] at h
                    refine rjf (a := (83, [(0, .ref x0), (3, .int x3), (4, .int x4), (5, .int y25_5), (6, .long y25_6), (8, .int y25_8), (9, .int y39_9), (10, .int y39_10)], [])) (b := (66, [(0, .ref x0), (3, .int x3), (4, .int x4), (5, .int y25_5), (6, .long y25_6), (8, .int y25_8), (9, .int y39_9), (10, .int y39_10)], [])) rfl rfl c43 ?_
                    refine rsn 3 (t := (70, [(0, .ref x0), (3, .int x3), (4, .int x4), (5, .int y25_5), (6, .long y25_6), (8, .int y25_8), (9, .int y39_9), (10, .int y39_10)], [.int y39_10, .int x3, .ref x0])) rfl ?_
                    obtain ⟨r44, g44, h⟩ := b1_some h
                    refine rcV 56 x0 [.int x3, .int y39_10] rfl rfl rfl (hSh.kW hx0 _) (Nat.le_of_ble_eq_true rfl) rfl (e_Will_worth N (by omega) hSh hx0 g44) ?_
                    show RN xs L al (Ev xs L al d) 93 73 [(0, .ref x0), (3, .int x3), (4, .int x4), (5, .int y25_5), (6, .long y25_6), (8, .int y25_8), (9, .int y39_9), (10, .int y39_10)] [.int r44] (m, S) (some (.int r0)) (m, S)
                    refine rsn 3 (t := (77, [(0, .ref x0), (3, .int x3), (4, .int x4), (5, .int y25_5), (6, .long y25_6), (8, .int y25_8), (9, .int y39_9), (10, .int y39_10)], [.int y39_9, .int x3, .ref x0, .int r44])) rfl ?_
                    obtain ⟨r45, g45, h⟩ := b1_some h
                    refine rcV 56 x0 [.int x3, .int y39_9] rfl rfl rfl (hSh.kW hx0 _) (Nat.le_of_ble_eq_true rfl) rfl (e_Will_worth N (by omega) hSh hx0 g45) ?_
                    show RN xs L al (Ev xs L al d) 93 80 [(0, .ref x0), (3, .int x3), (4, .int x4), (5, .int y25_5), (6, .long y25_6), (8, .int y25_8), (9, .int y39_9), (10, .int y39_10)] [.int r45, .int r44] (m, S) (some (.int r0)) (m, S)
                    by_cases c46 : r44 ≤ r45
                    · rw [if_pos c46] at h
                      refine rjt (a := (87, [(0, .ref x0), (3, .int x3), (4, .int x4), (5, .int y25_5), (6, .long y25_6), (8, .int y25_8), (9, .int y39_9), (10, .int y39_10)], [])) (b := (83, [(0, .ref x0), (3, .int x3), (4, .int x4), (5, .int y25_5), (6, .long y25_6), (8, .int y25_8), (9, .int y39_9), (10, .int y39_10)], [])) rfl rfl c46 ?_
                      refine rsn 2 (t := (42, [(10, .int ((y39_10 + 1))), (0, .ref x0), (3, .int x3), (4, .int x4), (5, .int y25_5), (6, .long y25_6), (8, .int y25_8), (9, .int y39_9)], [])) rfl ?_
                      exact rsub [(0, .ref x0), (3, .int x3), (4, .int x4), (5, .int y25_5), (6, .long y25_6), (8, .int y25_8), (9, .int y39_9), (10, .int ((y39_10 + 1)))] ⟨rfl, ⟨rfl, ⟨rfl, ⟨rfl, ⟨rfl, ⟨rfl, ⟨rfl, ⟨rfl, trivial⟩⟩⟩⟩⟩⟩⟩⟩ ⟨rfl, ⟨rfl, ⟨rfl, ⟨rfl, ⟨rfl, ⟨rfl, ⟨rfl, ⟨rfl, trivial⟩⟩⟩⟩⟩⟩⟩⟩ (ih42 y39_9 ((y39_10 + 1)) h)
                    · rw [if_neg c46] at h
                      refine rjf (a := (87, [(0, .ref x0), (3, .int x3), (4, .int x4), (5, .int y25_5), (6, .long y25_6), (8, .int y25_8), (9, .int y39_9), (10, .int y39_10)], [])) (b := (83, [(0, .ref x0), (3, .int x3), (4, .int x4), (5, .int y25_5), (6, .long y25_6), (8, .int y25_8), (9, .int y39_9), (10, .int y39_10)], [])) rfl rfl c46 ?_
                      refine rsn 4 (t := (42, [(10, .int ((y39_10 + 1))), (9, .int y39_10), (0, .ref x0), (3, .int x3), (4, .int x4), (5, .int y25_5), (6, .long y25_6), (8, .int y25_8)], [])) rfl ?_
                      exact rsub [(0, .ref x0), (3, .int x3), (4, .int x4), (5, .int y25_5), (6, .long y25_6), (8, .int y25_8), (9, .int y39_10), (10, .int ((y39_10 + 1)))] ⟨rfl, ⟨rfl, ⟨rfl, ⟨rfl, ⟨rfl, ⟨rfl, ⟨rfl, ⟨rfl, trivial⟩⟩⟩⟩⟩⟩⟩⟩ ⟨rfl, ⟨rfl, ⟨rfl, ⟨rfl, ⟨rfl, ⟨rfl, ⟨rfl, ⟨rfl, trivial⟩⟩⟩⟩⟩⟩⟩⟩ (ih42 y39_10 ((y39_10 + 1)) h)
          exact rsub [(0, .ref x0), (3, .int x3), (4, .int x4), (5, .int y25_5), (6, .long y25_6), (8, .int y25_8), (9, .int ((-1))), (10, .int 0)] ⟨rfl, ⟨rfl, ⟨rfl, ⟨rfl, ⟨rfl, ⟨rfl, ⟨rfl, ⟨rfl, trivial⟩⟩⟩⟩⟩⟩⟩⟩ ⟨rfl, ⟨rfl, ⟨rfl, ⟨rfl, ⟨rfl, ⟨rfl, ⟨rfl, ⟨rfl, trivial⟩⟩⟩⟩⟩⟩⟩⟩ (lp42 N ((-1)) 0 h)
  exact rsub [(0, .ref x0), (3, .int x3), (4, .int x4), (5, .int ((r1 - r2))), (6, .long x1), (8, .int 0)] ⟨rfl, ⟨rfl, ⟨rfl, ⟨rfl, ⟨rfl, ⟨rfl, trivial⟩⟩⟩⟩⟩⟩ ⟨rfl, ⟨rfl, ⟨rfl, ⟨rfl, ⟨rfl, ⟨rfl, trivial⟩⟩⟩⟩⟩⟩ (lp24 N ((r1 - r2)) x1 0 h)
def f_Goals_mostLeftOut_L17 (N : Nat) (S : St) (x0 : Nat) (x1 : Int64) (x4 : Int32) (m : Mm) (k17 : Int32 → Int32 → Option (Int32)) : Nat → Int32 → Int32 → Option (Int32)
  | 0, _, _ => none
  | n17 + 1, x3, x5 => (if ((mI m x0 0)) ≤ x5 then k17 x3 x5 else (if x4 = x5 then f_Goals_mostLeftOut_L17 N S x0 x1 x4 m k17 n17 x3 ((x5 + 1)) else b1 (f_State_isThere N x1 x4) fun r4 => (if r4 = 0 then f_Goals_mostLeftOut_L17 N S x0 x1 x4 m k17 n17 x3 ((x5 + 1)) else b1 (f_State_isThere N x1 x5) fun r6 => (if r6 = 0 then f_Goals_mostLeftOut_L17 N S x0 x1 x4 m k17 n17 x3 ((x5 + 1)) else b1 (f_Goals_leftOut N S x0 x1 x4 x5 m) fun r8 => f_Goals_mostLeftOut_L17 N S x0 x1 x4 m k17 n17 ((if x3 < r8 then r8 else x3)) ((x5 + 1))))))
def f_Goals_mostLeftOut_L5 (N : Nat) (S : St) (x0 : Nat) (x1 : Int64) (m : Mm) (k5 : Int32 → Int32 → Option (Int32)) : Nat → Int32 → Int32 → Option (Int32)
  | 0, _, _ => none
  | n5 + 1, x3, x4 => (if ((mI m x0 0)) ≤ x4 then k5 x3 x4 else f_Goals_mostLeftOut_L17 N S x0 x1 x4 m (fun (z9_3 : Int32) (z9_5 : Int32) => f_Goals_mostLeftOut_L5 N S x0 x1 m k5 n5 z9_3 ((x4 + 1))) N x3 0)
def f_Goals_mostLeftOut (N : Nat) (S : St) (x0 : Nat) (x1 : Int64) (m : Mm) : Option (Int32) := f_Goals_mostLeftOut_L5 N S x0 x1 m (fun (z18_3 : Int32) (z18_4 : Int32) => some z18_3) N 0 0
set_option maxRecDepth 20000 in
set_option maxHeartbeats 4000000 in
theorem e_Goals_mostLeftOut {xs : Nat → Int32} {L : Nat} {al : Bool} (N : Nat) {d : Nat} (hd : 3 ≤ d) {S : St} (hSh : ShC S) {x0 : Nat} {x1 : Int64} (hx0 : x0 ∈ wKl) {m : Mm} {r0 : Int32} (h : f_Goals_mostLeftOut N S x0 x1 m = some r0) : Ev xs L al d 92 [.ref x0, .long x1] (m, S) (some (.int r0)) (m, S) := by
  obtain ⟨d, rfl⟩ : ∃ e, d = e + 1 := ⟨d - 1, by omega⟩
  refine ev_of (by decide) (Nat.le_of_ble_eq_true rfl) ?_
  rw [f_Goals_mostLeftOut] at h
  show RN xs L al (Ev xs L al d) 92 0 [(0, .ref x0), (1, .long x1)] [] (m, S) (some (.int r0)) (m, S)
  refine rsn 4 (t := (5, [(4, .int 0), (3, .int 0), (0, .ref x0), (1, .long x1)], [])) rfl ?_
  have ex5 : ∀ (z18_3 : Int32) (z18_4 : Int32), (some z18_3) = some r0 → RN xs L al (Ev xs L al d) 92 77 [(3, .int z18_3)] [] (m, S) (some (.int r0)) (m, S) := by
    intro z18_3 z18_4 h
    try dsimp only at h
    refine rsn 1 (t := (78, [(3, .int z18_3)], [.int z18_3])) rfl ?_
    have h := Option.some.inj h
    subst h
    exact rret rfl ⟨rfl, rfl, _, _, rfl, rfl, rfl, rfl⟩
  have lp5 : ∀ (n : Nat) (y19_3 : Int32) (y19_4 : Int32), (f_Goals_mostLeftOut_L5 N S x0 x1 m (fun (z18_3 : Int32) (z18_4 : Int32) => some z18_3) n y19_3 y19_4) = some r0 → RN xs L al (Ev xs L al d) 92 5 [(0, .ref x0), (1, .long x1), (3, .int y19_3), (4, .int y19_4)] [] (m, S) (some (.int r0)) (m, S) := by
    intro n
    induction n with
    | zero => intro y19_3 y19_4 h; exact absurd h (by simp [f_Goals_mostLeftOut_L5])
    | succ n5 ih5 =>
      intro y19_3 y19_4 h
      try dsimp only at h
      rw [f_Goals_mostLeftOut_L5] at h
      try dsimp only at h
      refine rsn 2 (t := (8, [(0, .ref x0), (1, .long x1), (3, .int y19_3), (4, .int y19_4)], [.ref x0, .int y19_4])) rfl ?_
      refine pgI rfl rfl rfl (hSh.kW hx0 _) ?_
      show RN xs L al (Ev xs L al d) 92 11 [(0, .ref x0), (1, .long x1), (3, .int y19_3), (4, .int y19_4)] [.int ((mI m x0 0)), .int y19_4] (m, S) (some (.int r0)) (m, S)
      by_cases c20 : ((mI m x0 0)) ≤ y19_4
      · rw [if_pos c20] at h
        refine rjt (a := (77, [(0, .ref x0), (1, .long x1), (3, .int y19_3), (4, .int y19_4)], [])) (b := (14, [(0, .ref x0), (1, .long x1), (3, .int y19_3), (4, .int y19_4)], [])) rfl rfl c20 ?_
        exact rsub [(3, .int y19_3)] ⟨rfl, trivial⟩ ⟨rfl, trivial⟩ (ex5 y19_3 y19_4 h)
      · rw [if_neg c20] at h
        refine rjf (a := (77, [(0, .ref x0), (1, .long x1), (3, .int y19_3), (4, .int y19_4)], [])) (b := (14, [(0, .ref x0), (1, .long x1), (3, .int y19_3), (4, .int y19_4)], [])) rfl rfl c20 ?_
        refine rsn 2 (t := (17, [(5, .int 0), (0, .ref x0), (1, .long x1), (3, .int y19_3), (4, .int y19_4)], [])) rfl ?_
        have ex17 : ∀ (z28_3 : Int32) (z28_5 : Int32), (f_Goals_mostLeftOut_L5 N S x0 x1 m (fun (z18_3 : Int32) (z18_4 : Int32) => some z18_3) n5 z28_3 ((y19_4 + 1))) = some r0 → RN xs L al (Ev xs L al d) 92 71 [(0, .ref x0), (1, .long x1), (3, .int z28_3), (4, .int y19_4)] [] (m, S) (some (.int r0)) (m, S) := by
          intro z28_3 z28_5 h
          try dsimp only at h
          refine rsn 2 (t := (5, [(4, .int ((y19_4 + 1))), (0, .ref x0), (1, .long x1), (3, .int z28_3)], [])) rfl ?_
          exact rsub [(0, .ref x0), (1, .long x1), (3, .int z28_3), (4, .int ((y19_4 + 1)))] ⟨rfl, ⟨rfl, ⟨rfl, ⟨rfl, trivial⟩⟩⟩⟩ ⟨rfl, ⟨rfl, ⟨rfl, ⟨rfl, trivial⟩⟩⟩⟩ (ih5 z28_3 ((y19_4 + 1)) h)
        have lp17 : ∀ (n : Nat) (y29_3 : Int32) (y29_5 : Int32), (f_Goals_mostLeftOut_L17 N S x0 x1 y19_4 m (fun (z28_3 : Int32) (z28_5 : Int32) => f_Goals_mostLeftOut_L5 N S x0 x1 m (fun (z18_3 : Int32) (z18_4 : Int32) => some z18_3) n5 z28_3 ((y19_4 + 1))) n y29_3 y29_5) = some r0 → RN xs L al (Ev xs L al d) 92 17 [(0, .ref x0), (1, .long x1), (3, .int y29_3), (4, .int y19_4), (5, .int y29_5)] [] (m, S) (some (.int r0)) (m, S) := by
          intro n
          induction n with
          | zero => intro y29_3 y29_5 h; exact absurd h (by simp [f_Goals_mostLeftOut_L17])
          | succ n17 ih17 =>
            intro y29_3 y29_5 h
            try dsimp only at h
            rw [f_Goals_mostLeftOut_L17] at h
            try dsimp only at h
            refine rsn 2 (t := (20, [(0, .ref x0), (1, .long x1), (3, .int y29_3), (4, .int y19_4), (5, .int y29_5)], [.ref x0, .int y29_5])) rfl ?_
            refine pgI rfl rfl rfl (hSh.kW hx0 _) ?_
            show RN xs L al (Ev xs L al d) 92 23 [(0, .ref x0), (1, .long x1), (3, .int y29_3), (4, .int y19_4), (5, .int y29_5)] [.int ((mI m x0 0)), .int y29_5] (m, S) (some (.int r0)) (m, S)
            by_cases c30 : ((mI m x0 0)) ≤ y29_5
            · rw [if_pos c30] at h
              refine rjt (a := (71, [(0, .ref x0), (1, .long x1), (3, .int y29_3), (4, .int y19_4), (5, .int y29_5)], [])) (b := (26, [(0, .ref x0), (1, .long x1), (3, .int y29_3), (4, .int y19_4), (5, .int y29_5)], [])) rfl rfl c30 ?_
              exact rsub [(0, .ref x0), (1, .long x1), (3, .int y29_3), (4, .int y19_4)] ⟨rfl, ⟨rfl, ⟨rfl, ⟨rfl, trivial⟩⟩⟩⟩ ⟨rfl, ⟨rfl, ⟨rfl, ⟨rfl, trivial⟩⟩⟩⟩ (ex17 y29_3 y29_5 h)
            · rw [if_neg c30] at h
              refine rjf (a := (71, [(0, .ref x0), (1, .long x1), (3, .int y29_3), (4, .int y19_4), (5, .int y29_5)], [])) (b := (26, [(0, .ref x0), (1, .long x1), (3, .int y29_3), (4, .int y19_4), (5, .int y29_5)], [])) rfl rfl c30 ?_
              refine rsn 2 (t := (30, [(0, .ref x0), (1, .long x1), (3, .int y29_3), (4, .int y19_4), (5, .int y29_5)], [.int y29_5, .int y19_4])) rfl ?_
              by_cases c31 : y19_4 = y29_5
              · rw [if_pos c31] at h
                refine rjt (a := (65, [(0, .ref x0), (1, .long x1), (3, .int y29_3), (4, .int y19_4), (5, .int y29_5)], [])) (b := (33, [(0, .ref x0), (1, .long x1), (3, .int y29_3), (4, .int y19_4), (5, .int y29_5)], [])) rfl rfl c31 ?_
                refine rsn 2 (t := (17, [(5, .int ((y29_5 + 1))), (0, .ref x0), (1, .long x1), (3, .int y29_3), (4, .int y19_4)], [])) rfl ?_
                exact rsub [(0, .ref x0), (1, .long x1), (3, .int y29_3), (4, .int y19_4), (5, .int ((y29_5 + 1)))] ⟨rfl, ⟨rfl, ⟨rfl, ⟨rfl, ⟨rfl, trivial⟩⟩⟩⟩⟩ ⟨rfl, ⟨rfl, ⟨rfl, ⟨rfl, ⟨rfl, trivial⟩⟩⟩⟩⟩ (ih17 y29_3 ((y29_5 + 1)) h)
              · rw [if_neg c31] at h
                refine rjf (a := (65, [(0, .ref x0), (1, .long x1), (3, .int y29_3), (4, .int y19_4), (5, .int y29_5)], [])) (b := (33, [(0, .ref x0), (1, .long x1), (3, .int y29_3), (4, .int y19_4), (5, .int y29_5)], [])) rfl rfl c31 ?_
                refine rsn 2 (t := (36, [(0, .ref x0), (1, .long x1), (3, .int y29_3), (4, .int y19_4), (5, .int y29_5)], [.int y19_4, .long x1])) rfl ?_
                obtain ⟨r32, g32, h⟩ := b1_some h
                refine rcS 54 [.long x1, .int y19_4] rfl rfl rfl (Nat.le_of_ble_eq_true rfl) rfl (e_State_isThere N (by omega) g32) ?_
                show RN xs L al (Ev xs L al d) 92 39 [(0, .ref x0), (1, .long x1), (3, .int y29_3), (4, .int y19_4), (5, .int y29_5)] [.int r32] (m, S) (some (.int r0)) (m, S)
                by_cases c33 : r32 = 0
                · rw [if_pos c33] at h
                  refine rjt (a := (65, [(0, .ref x0), (1, .long x1), (3, .int y29_3), (4, .int y19_4), (5, .int y29_5)], [])) (b := (42, [(0, .ref x0), (1, .long x1), (3, .int y29_3), (4, .int y19_4), (5, .int y29_5)], [])) rfl rfl c33 ?_
                  refine rsn 2 (t := (17, [(5, .int ((y29_5 + 1))), (0, .ref x0), (1, .long x1), (3, .int y29_3), (4, .int y19_4)], [])) rfl ?_
                  exact rsub [(0, .ref x0), (1, .long x1), (3, .int y29_3), (4, .int y19_4), (5, .int ((y29_5 + 1)))] ⟨rfl, ⟨rfl, ⟨rfl, ⟨rfl, ⟨rfl, trivial⟩⟩⟩⟩⟩ ⟨rfl, ⟨rfl, ⟨rfl, ⟨rfl, ⟨rfl, trivial⟩⟩⟩⟩⟩ (ih17 y29_3 ((y29_5 + 1)) h)
                · rw [if_neg c33] at h
                  refine rjf (a := (65, [(0, .ref x0), (1, .long x1), (3, .int y29_3), (4, .int y19_4), (5, .int y29_5)], [])) (b := (42, [(0, .ref x0), (1, .long x1), (3, .int y29_3), (4, .int y19_4), (5, .int y29_5)], [])) rfl rfl c33 ?_
                  refine rsn 2 (t := (45, [(0, .ref x0), (1, .long x1), (3, .int y29_3), (4, .int y19_4), (5, .int y29_5)], [.int y29_5, .long x1])) rfl ?_
                  obtain ⟨r34, g34, h⟩ := b1_some h
                  refine rcS 54 [.long x1, .int y29_5] rfl rfl rfl (Nat.le_of_ble_eq_true rfl) rfl (e_State_isThere N (by omega) g34) ?_
                  show RN xs L al (Ev xs L al d) 92 48 [(0, .ref x0), (1, .long x1), (3, .int y29_3), (4, .int y19_4), (5, .int y29_5)] [.int r34] (m, S) (some (.int r0)) (m, S)
                  by_cases c35 : r34 = 0
                  · rw [if_pos c35] at h
                    refine rjt (a := (65, [(0, .ref x0), (1, .long x1), (3, .int y29_3), (4, .int y19_4), (5, .int y29_5)], [])) (b := (51, [(0, .ref x0), (1, .long x1), (3, .int y29_3), (4, .int y19_4), (5, .int y29_5)], [])) rfl rfl c35 ?_
                    refine rsn 2 (t := (17, [(5, .int ((y29_5 + 1))), (0, .ref x0), (1, .long x1), (3, .int y29_3), (4, .int y19_4)], [])) rfl ?_
                    exact rsub [(0, .ref x0), (1, .long x1), (3, .int y29_3), (4, .int y19_4), (5, .int ((y29_5 + 1)))] ⟨rfl, ⟨rfl, ⟨rfl, ⟨rfl, ⟨rfl, trivial⟩⟩⟩⟩⟩ ⟨rfl, ⟨rfl, ⟨rfl, ⟨rfl, ⟨rfl, trivial⟩⟩⟩⟩⟩ (ih17 y29_3 ((y29_5 + 1)) h)
                  · rw [if_neg c35] at h
                    refine rjf (a := (65, [(0, .ref x0), (1, .long x1), (3, .int y29_3), (4, .int y19_4), (5, .int y29_5)], [])) (b := (51, [(0, .ref x0), (1, .long x1), (3, .int y29_3), (4, .int y19_4), (5, .int y29_5)], [])) rfl rfl c35 ?_
                    refine rsn 5 (t := (58, [(0, .ref x0), (1, .long x1), (3, .int y29_3), (4, .int y19_4), (5, .int y29_5)], [.int y29_5, .int y19_4, .long x1, .ref x0, .int y29_3])) rfl ?_
                    obtain ⟨r36, g36, h⟩ := b1_some h
                    refine rcS 93 [.ref x0, .long x1, .int y19_4, .int y29_5] rfl rfl rfl (Nat.le_of_ble_eq_true rfl) rfl (e_Goals_leftOut N (by omega) hSh hx0 g36) ?_
                    show RN xs L al (Ev xs L al d) 92 61 [(0, .ref x0), (1, .long x1), (3, .int y29_3), (4, .int y19_4), (5, .int y29_5)] [.int r36, .int y29_3] (m, S) (some (.int r0)) (m, S)
                    refine rm (st1 := [.int ((if y29_3 < r36 then r36 else y29_3))]) rfl ⟨rfl, rfl, 0, [], rfl, Nat.le_of_ble_eq_true rfl, Or.inl ⟨rfl, _, _, rfl, rfl⟩⟩ ?_
                    refine rsn 3 (t := (17, [(5, .int ((y29_5 + 1))), (3, .int ((if y29_3 < r36 then r36 else y29_3))), (0, .ref x0), (1, .long x1), (4, .int y19_4)], [])) rfl ?_
                    exact rsub [(0, .ref x0), (1, .long x1), (3, .int ((if y29_3 < r36 then r36 else y29_3))), (4, .int y19_4), (5, .int ((y29_5 + 1)))] ⟨rfl, ⟨rfl, ⟨rfl, ⟨rfl, ⟨rfl, trivial⟩⟩⟩⟩⟩ ⟨rfl, ⟨rfl, ⟨rfl, ⟨rfl, ⟨rfl, trivial⟩⟩⟩⟩⟩ (ih17 ((if y29_3 < r36 then r36 else y29_3)) ((y29_5 + 1)) h)
        exact rsub [(0, .ref x0), (1, .long x1), (3, .int y19_3), (4, .int y19_4), (5, .int 0)] ⟨rfl, ⟨rfl, ⟨rfl, ⟨rfl, ⟨rfl, trivial⟩⟩⟩⟩⟩ ⟨rfl, ⟨rfl, ⟨rfl, ⟨rfl, ⟨rfl, trivial⟩⟩⟩⟩⟩ (lp17 N y19_3 0 h)
  exact rsub [(0, .ref x0), (1, .long x1), (3, .int 0), (4, .int 0)] ⟨rfl, ⟨rfl, ⟨rfl, ⟨rfl, trivial⟩⟩⟩⟩ ⟨rfl, ⟨rfl, ⟨rfl, ⟨rfl, trivial⟩⟩⟩⟩ (lp5 N 0 0 h)
def f_Goals_sum_L5 (N : Nat) (S : St) (x0 : Nat) (x1 : Int64) (m : Mm) (k5 : Int32 → Int32 → Option (Int32)) : Nat → Int32 → Int32 → Option (Int32)
  | 0, _, _ => none
  | n5 + 1, x3, x4 => (if ((mI m x0 0)) ≤ x4 then k5 x3 x4 else b1 (f_State_isThere N x1 x4) fun r2 => (if r2 = 0 then f_Goals_sum_L5 N S x0 x1 m k5 n5 x3 ((x4 + 1)) else b1 (f_Will_valueOf N S x0 x4 x1 x4 m) fun r4 => f_Goals_sum_L5 N S x0 x1 m k5 n5 ((x3 + r4)) ((x4 + 1))))
def f_Goals_sum (N : Nat) (S : St) (x0 : Nat) (x1 : Int64) (m : Mm) : Option (Int32) := f_Goals_sum_L5 N S x0 x1 m (fun (z5_3 : Int32) (z5_4 : Int32) => some z5_3) N 0 0
set_option maxRecDepth 20000 in
set_option maxHeartbeats 4000000 in
theorem e_Goals_sum {xs : Nat → Int32} {L : Nat} {al : Bool} (N : Nat) {d : Nat} (hd : 3 ≤ d) {S : St} (hSh : ShC S) {x0 : Nat} {x1 : Int64} (hx0 : x0 ∈ wKl) {m : Mm} {r0 : Int32} (h : f_Goals_sum N S x0 x1 m = some r0) : Ev xs L al d 94 [.ref x0, .long x1] (m, S) (some (.int r0)) (m, S) := by
  obtain ⟨d, rfl⟩ : ∃ e, d = e + 1 := ⟨d - 1, by omega⟩
  refine ev_of (by decide) (Nat.le_of_ble_eq_true rfl) ?_
  rw [f_Goals_sum] at h
  show RN xs L al (Ev xs L al d) 94 0 [(0, .ref x0), (1, .long x1)] [] (m, S) (some (.int r0)) (m, S)
  refine rsn 4 (t := (5, [(4, .int 0), (3, .int 0), (0, .ref x0), (1, .long x1)], [])) rfl ?_
  have ex5 : ∀ (z5_3 : Int32) (z5_4 : Int32), (some z5_3) = some r0 → RN xs L al (Ev xs L al d) 94 41 [(3, .int z5_3)] [] (m, S) (some (.int r0)) (m, S) := by
    intro z5_3 z5_4 h
    try dsimp only at h
    refine rsn 1 (t := (42, [(3, .int z5_3)], [.int z5_3])) rfl ?_
    have h := Option.some.inj h
    subst h
    exact rret rfl ⟨rfl, rfl, _, _, rfl, rfl, rfl, rfl⟩
  have lp5 : ∀ (n : Nat) (y6_3 : Int32) (y6_4 : Int32), (f_Goals_sum_L5 N S x0 x1 m (fun (z5_3 : Int32) (z5_4 : Int32) => some z5_3) n y6_3 y6_4) = some r0 → RN xs L al (Ev xs L al d) 94 5 [(0, .ref x0), (1, .long x1), (3, .int y6_3), (4, .int y6_4)] [] (m, S) (some (.int r0)) (m, S) := by
    intro n
    induction n with
    | zero => intro y6_3 y6_4 h; exact absurd h (by simp [f_Goals_sum_L5])
    | succ n5 ih5 =>
      intro y6_3 y6_4 h
      try dsimp only at h
      rw [f_Goals_sum_L5] at h
      try dsimp only at h
      refine rsn 2 (t := (8, [(0, .ref x0), (1, .long x1), (3, .int y6_3), (4, .int y6_4)], [.ref x0, .int y6_4])) rfl ?_
      refine pgI rfl rfl rfl (hSh.kW hx0 _) ?_
      show RN xs L al (Ev xs L al d) 94 11 [(0, .ref x0), (1, .long x1), (3, .int y6_3), (4, .int y6_4)] [.int ((mI m x0 0)), .int y6_4] (m, S) (some (.int r0)) (m, S)
      by_cases c7 : ((mI m x0 0)) ≤ y6_4
      · rw [if_pos c7] at h
        refine rjt (a := (41, [(0, .ref x0), (1, .long x1), (3, .int y6_3), (4, .int y6_4)], [])) (b := (14, [(0, .ref x0), (1, .long x1), (3, .int y6_3), (4, .int y6_4)], [])) rfl rfl c7 ?_
        exact rsub [(3, .int y6_3)] ⟨rfl, trivial⟩ ⟨rfl, trivial⟩ (ex5 y6_3 y6_4 h)
      · rw [if_neg c7] at h
        refine rjf (a := (41, [(0, .ref x0), (1, .long x1), (3, .int y6_3), (4, .int y6_4)], [])) (b := (14, [(0, .ref x0), (1, .long x1), (3, .int y6_3), (4, .int y6_4)], [])) rfl rfl c7 ?_
        refine rsn 2 (t := (17, [(0, .ref x0), (1, .long x1), (3, .int y6_3), (4, .int y6_4)], [.int y6_4, .long x1])) rfl ?_
        obtain ⟨r8, g8, h⟩ := b1_some h
        refine rcS 54 [.long x1, .int y6_4] rfl rfl rfl (Nat.le_of_ble_eq_true rfl) rfl (e_State_isThere N (by omega) g8) ?_
        show RN xs L al (Ev xs L al d) 94 20 [(0, .ref x0), (1, .long x1), (3, .int y6_3), (4, .int y6_4)] [.int r8] (m, S) (some (.int r0)) (m, S)
        by_cases c9 : r8 = 0
        · rw [if_pos c9] at h
          refine rjt (a := (35, [(0, .ref x0), (1, .long x1), (3, .int y6_3), (4, .int y6_4)], [])) (b := (23, [(0, .ref x0), (1, .long x1), (3, .int y6_3), (4, .int y6_4)], [])) rfl rfl c9 ?_
          refine rsn 2 (t := (5, [(4, .int ((y6_4 + 1))), (0, .ref x0), (1, .long x1), (3, .int y6_3)], [])) rfl ?_
          exact rsub [(0, .ref x0), (1, .long x1), (3, .int y6_3), (4, .int ((y6_4 + 1)))] ⟨rfl, ⟨rfl, ⟨rfl, ⟨rfl, trivial⟩⟩⟩⟩ ⟨rfl, ⟨rfl, ⟨rfl, ⟨rfl, trivial⟩⟩⟩⟩ (ih5 y6_3 ((y6_4 + 1)) h)
        · rw [if_neg c9] at h
          refine rjf (a := (35, [(0, .ref x0), (1, .long x1), (3, .int y6_3), (4, .int y6_4)], [])) (b := (23, [(0, .ref x0), (1, .long x1), (3, .int y6_3), (4, .int y6_4)], [])) rfl rfl c9 ?_
          refine rsn 5 (t := (30, [(0, .ref x0), (1, .long x1), (3, .int y6_3), (4, .int y6_4)], [.int y6_4, .long x1, .int y6_4, .ref x0, .int y6_3])) rfl ?_
          obtain ⟨r10, g10, h⟩ := b1_some h
          refine rcV 58 x0 [.int y6_4, .long x1, .int y6_4] rfl rfl rfl (hSh.kW hx0 _) (Nat.le_of_ble_eq_true rfl) rfl (e_Will_valueOf N (by omega) hSh hx0 g10) ?_
          show RN xs L al (Ev xs L al d) 94 33 [(0, .ref x0), (1, .long x1), (3, .int y6_3), (4, .int y6_4)] [.int r10, .int y6_3] (m, S) (some (.int r0)) (m, S)
          refine rsn 4 (t := (5, [(4, .int ((y6_4 + 1))), (3, .int ((y6_3 + r10))), (0, .ref x0), (1, .long x1)], [])) rfl ?_
          exact rsub [(0, .ref x0), (1, .long x1), (3, .int ((y6_3 + r10))), (4, .int ((y6_4 + 1)))] ⟨rfl, ⟨rfl, ⟨rfl, ⟨rfl, trivial⟩⟩⟩⟩ ⟨rfl, ⟨rfl, ⟨rfl, ⟨rfl, trivial⟩⟩⟩⟩ (ih5 ((y6_3 + r10)) ((y6_4 + 1)) h)
  exact rsub [(0, .ref x0), (1, .long x1), (3, .int 0), (4, .int 0)] ⟨rfl, ⟨rfl, ⟨rfl, ⟨rfl, trivial⟩⟩⟩⟩ ⟨rfl, ⟨rfl, ⟨rfl, ⟨rfl, trivial⟩⟩⟩⟩ (lp5 N 0 0 h)
def f_Table_put (N : Nat) (S : St) (x0 : Nat) (x1 : Int32) (x2 : Int64) (m : Mm) : Option (Mm) := (if x1 < 0 then some m else b1 (S.1 x0 0) fun t2 => (if ((Int32.ofNat ((S.2.2.1 t2)))) ≤ x1 then some m else b1 (S.1 x0 0) fun t4 => ck (ix x1 (S.2.2.1 t4)) (some (vY m t4 x1.toNatClampNeg x2))))
set_option maxRecDepth 20000 in
set_option maxHeartbeats 4000000 in
theorem e_Table_put {xs : Nat → Int32} {L : Nat} {al : Bool} (N : Nat) {d : Nat} (hd : 1 ≤ d) {S : St} (hSh : ShC S) {x0 : Nat} {x1 : Int32} {x2 : Int64} (hx0 : x0 ∈ tKl) {m : Mm} {mf : Mm} (h : f_Table_put N S x0 x1 x2 m = some mf) : Ev xs L al d 95 [.ref x0, .int x1, .long x2] (m, S) none (mf, S) := by
  obtain ⟨d, rfl⟩ : ∃ e, d = e + 1 := ⟨d - 1, by omega⟩
  refine ev_of (by decide) (Nat.le_of_ble_eq_true rfl) ?_
  rw [f_Table_put] at h
  show RN xs L al (Ev xs L al d) 95 0 [(0, .ref x0), (1, .int x1), (2, .long x2)] [] (m, S) none (mf, S)
  refine rsn 1 (t := (1, [(0, .ref x0), (1, .int x1), (2, .long x2)], [.int x1])) rfl ?_
  by_cases c1 : x1 < 0
  · rw [if_pos c1] at h
    refine rjt (a := (20, [(0, .ref x0), (1, .int x1), (2, .long x2)], [])) (b := (4, [(0, .ref x0), (1, .int x1), (2, .long x2)], [])) rfl rfl c1 ?_
    have h := Option.some.inj h
    subst h
    exact rret rfl ⟨rfl, rfl, rfl, rfl, rfl⟩
  · rw [if_neg c1] at h
    refine rjf (a := (20, [(0, .ref x0), (1, .int x1), (2, .long x2)], [])) (b := (4, [(0, .ref x0), (1, .int x1), (2, .long x2)], [])) rfl rfl c1 ?_
    refine rsn 2 (t := (6, [(0, .ref x0), (1, .int x1), (2, .long x2)], [.ref x0, .int x1])) rfl ?_
    obtain ⟨t2, g2, h⟩ := b1_some h
    refine rgR rfl rfl rfl (hSh.kT hx0 _) g2 ?_
    refine rxL rfl (hSh.kF hx0 g2 _) (by decide) rfl ?_
    show RN xs L al (Ev xs L al d) 95 10 [(0, .ref x0), (1, .int x1), (2, .long x2)] [.int ((Int32.ofNat ((S.2.2.1 t2)))), .int x1] (m, S) none (mf, S)
    by_cases c3 : ((Int32.ofNat ((S.2.2.1 t2)))) ≤ x1
    · rw [if_pos c3] at h
      refine rjt (a := (20, [(0, .ref x0), (1, .int x1), (2, .long x2)], [])) (b := (13, [(0, .ref x0), (1, .int x1), (2, .long x2)], [])) rfl rfl c3 ?_
      have h := Option.some.inj h
      subst h
      exact rret rfl ⟨rfl, rfl, rfl, rfl, rfl⟩
    · rw [if_neg c3] at h
      refine rjf (a := (20, [(0, .ref x0), (1, .int x1), (2, .long x2)], [])) (b := (13, [(0, .ref x0), (1, .int x1), (2, .long x2)], [])) rfl rfl c3 ?_
      refine rsn 1 (t := (14, [(0, .ref x0), (1, .int x1), (2, .long x2)], [.ref x0])) rfl ?_
      obtain ⟨t4, g4, h⟩ := b1_some h
      refine rgR rfl rfl rfl (hSh.kT hx0 _) g4 ?_
      refine rsn 2 (t := (19, [(0, .ref x0), (1, .int x1), (2, .long x2)], [.long x2, .int x1, .ref t4])) rfl ?_
      obtain ⟨c5, h⟩ := ck_some h
      refine psJ rfl (hSh.kF hx0 g4 _) rfl c5 ?_
      have h := Option.some.inj h
      subst h
      exact rret rfl ⟨rfl, rfl, rfl, rfl, rfl⟩
def f_Ranks_dayPlaces (N : Nat) (S : St) (m : Mm) : Option (Int32) := ck (ix ((mI m 18 11)) 8) (some ((((mX m 26 (((mI m 18 11)).toNatClampNeg))) * ((mI m 18 10)))))
set_option maxRecDepth 20000 in
set_option maxHeartbeats 4000000 in
theorem e_Ranks_dayPlaces {xs : Nat → Int32} {L : Nat} {al : Bool} (N : Nat) {d : Nat} (hd : 1 ≤ d) {S : St} (hSh : ShC S) {m : Mm} {r0 : Int32} (h : f_Ranks_dayPlaces N S m = some r0) : Ev xs L al d 99 [.ref 18] (m, S) (some (.int r0)) (m, S) := by
  obtain ⟨d, rfl⟩ : ∃ e, d = e + 1 := ⟨d - 1, by omega⟩
  refine ev_of (by decide) (Nat.le_of_ble_eq_true rfl) ?_
  rw [f_Ranks_dayPlaces] at h
  show RN xs L al (Ev xs L al d) 99 0 [(0, .ref 18)] [] (m, S) (some (.int r0)) (m, S)
  refine rsn 1 (t := (1, [(0, .ref 18)], [.ref 18])) rfl ?_
  refine rgR rfl rfl rfl (hSh.1.k 18 rfl _) (hSh.1.r 19 rfl _) ?_
  refine rsn 1 (t := (5, [(0, .ref 18)], [.ref 18, .ref 26])) rfl ?_
  refine pgI rfl rfl rfl (hSh.1.k 18 rfl _) ?_
  show RN xs L al (Ev xs L al d) 99 8 [(0, .ref 18)] [.int ((mI m 18 11)), .ref 26] (m, S) (some (.int r0)) (m, S)
  obtain ⟨c1, h⟩ := ck_some h
  refine pxI rfl (hSh.1.k 26 rfl _) (hSh.1.l 20 rfl _) c1 ?_
  show RN xs L al (Ev xs L al d) 99 9 [(0, .ref 18)] [.int ((mX m 26 (((mI m 18 11)).toNatClampNeg)))] (m, S) (some (.int r0)) (m, S)
  refine rsn 1 (t := (10, [(0, .ref 18)], [.ref 18, .int ((mX m 26 (((mI m 18 11)).toNatClampNeg)))])) rfl ?_
  refine pgI rfl rfl rfl (hSh.1.k 18 rfl _) ?_
  show RN xs L al (Ev xs L al d) 99 13 [(0, .ref 18)] [.int ((mI m 18 10)), .int ((mX m 26 (((mI m 18 11)).toNatClampNeg)))] (m, S) (some (.int r0)) (m, S)
  refine rsn 1 (t := (14, [(0, .ref 18)], [.int ((((mX m 26 (((mI m 18 11)).toNatClampNeg))) * ((mI m 18 10))))])) rfl ?_
  have h := Option.some.inj h
  subst h
  exact rret rfl ⟨rfl, rfl, _, _, rfl, rfl, rfl, rfl⟩
def f_Ranks_placeOf (N : Nat) (S : St) (x1 : Int64) (m : Mm) : Option (Int32) := b1 (f_State_dayOf N x1) fun r1 => (if r1 ≤ ((mI m 18 11)) then ck (ix r1 7) (b1 (f_Ranks_cellPlace N S x1 ((mX m 25 r1.toNatClampNeg)) m) fun r4 => (if r4 = ((-1)) then some ((-1)) else ck (ix r1 8) (b1 (f_Ranks_lateOf N S x1 m) fun r7 => some ((((((((mX m 26 r1.toNatClampNeg)) + r4)) * ((mI m 18 10)))) + r7))))) else some ((-1)))
set_option maxRecDepth 20000 in
set_option maxHeartbeats 4000000 in
theorem e_Ranks_placeOf {xs : Nat → Int32} {L : Nat} {al : Bool} (N : Nat) {d : Nat} (hd : 3 ≤ d) {S : St} (hSh : ShC S) {x1 : Int64} {m : Mm} {r0 : Int32} (h : f_Ranks_placeOf N S x1 m = some r0) : Ev xs L al d 102 [.ref 18, .long x1] (m, S) (some (.int r0)) (m, S) := by
  obtain ⟨d, rfl⟩ : ∃ e, d = e + 1 := ⟨d - 1, by omega⟩
  refine ev_of (by decide) (Nat.le_of_ble_eq_true rfl) ?_
  rw [f_Ranks_placeOf] at h
  show RN xs L al (Ev xs L al d) 102 0 [(0, .ref 18), (1, .long x1)] [] (m, S) (some (.int r0)) (m, S)
  refine rsn 1 (t := (1, [(0, .ref 18), (1, .long x1)], [.long x1])) rfl ?_
  obtain ⟨r1, g1, h⟩ := b1_some h
  refine rcS 63 [.long x1] rfl rfl rfl (Nat.le_of_ble_eq_true rfl) rfl (e_State_dayOf N (by omega) g1) ?_
  show RN xs L al (Ev xs L al d) 102 4 [(0, .ref 18), (1, .long x1)] [.int r1] (m, S) (some (.int r0)) (m, S)
  refine rsn 3 (t := (7, [(3, .int r1), (0, .ref 18), (1, .long x1)], [.ref 18, .int r1])) rfl ?_
  refine pgI rfl rfl rfl (hSh.1.k 18 rfl _) ?_
  show RN xs L al (Ev xs L al d) 102 10 [(3, .int r1), (0, .ref 18), (1, .long x1)] [.int ((mI m 18 11)), .int r1] (m, S) (some (.int r0)) (m, S)
  by_cases c2 : r1 ≤ ((mI m 18 11))
  · rw [if_pos c2] at h
    refine rjt (a := (15, [(3, .int r1), (0, .ref 18), (1, .long x1)], [])) (b := (13, [(3, .int r1), (0, .ref 18), (1, .long x1)], [])) rfl rfl c2 ?_
    refine rsn 3 (t := (18, [(3, .int r1), (0, .ref 18), (1, .long x1)], [.ref 18, .long x1, .ref 18])) rfl ?_
    refine rgR rfl rfl rfl (hSh.1.k 18 rfl _) (hSh.1.r 18 rfl _) ?_
    refine rsn 1 (t := (22, [(3, .int r1), (0, .ref 18), (1, .long x1)], [.int r1, .ref 25, .long x1, .ref 18])) rfl ?_
    obtain ⟨c3, h⟩ := ck_some h
    refine pxI rfl (hSh.1.k 25 rfl _) (hSh.1.l 19 rfl _) c3 ?_
    show RN xs L al (Ev xs L al d) 102 23 [(3, .int r1), (0, .ref 18), (1, .long x1)] [.int ((mX m 25 r1.toNatClampNeg)), .long x1, .ref 18] (m, S) (some (.int r0)) (m, S)
    obtain ⟨r4, g4, h⟩ := b1_some h
    refine rcV 82 18 [.long x1, .int ((mX m 25 r1.toNatClampNeg))] rfl rfl rfl (hSh.1.k 18 rfl _) (Nat.le_of_ble_eq_true rfl) rfl (e_Ranks_cellPlace N (by omega) hSh g4) ?_
    show RN xs L al (Ev xs L al d) 102 26 [(3, .int r1), (0, .ref 18), (1, .long x1)] [.int r4] (m, S) (some (.int r0)) (m, S)
    refine rsn 3 (t := (31, [(4, .int r4), (3, .int r1), (0, .ref 18), (1, .long x1)], [.int ((-1)), .int r4])) rfl ?_
    by_cases c5 : r4 = ((-1))
    · rw [if_pos c5] at h
      refine rjf (a := (38, [(4, .int r4), (3, .int r1), (0, .ref 18), (1, .long x1)], [])) (b := (34, [(4, .int r4), (3, .int r1), (0, .ref 18), (1, .long x1)], [])) rfl rfl (fun q => q c5) ?_
      refine rsn 2 (t := (58, [(4, .int r4), (3, .int r1), (0, .ref 18), (1, .long x1)], [.int ((-1))])) rfl ?_
      have h := Option.some.inj h
      subst h
      exact rret rfl ⟨rfl, rfl, _, _, rfl, rfl, rfl, rfl⟩
    · rw [if_neg c5] at h
      refine rjt (a := (38, [(4, .int r4), (3, .int r1), (0, .ref 18), (1, .long x1)], [])) (b := (34, [(4, .int r4), (3, .int r1), (0, .ref 18), (1, .long x1)], [])) rfl rfl c5 ?_
      refine rsn 1 (t := (39, [(4, .int r4), (3, .int r1), (0, .ref 18), (1, .long x1)], [.ref 18])) rfl ?_
      refine rgR rfl rfl rfl (hSh.1.k 18 rfl _) (hSh.1.r 19 rfl _) ?_
      refine rsn 1 (t := (43, [(4, .int r4), (3, .int r1), (0, .ref 18), (1, .long x1)], [.int r1, .ref 26])) rfl ?_
      obtain ⟨c6, h⟩ := ck_some h
      refine pxI rfl (hSh.1.k 26 rfl _) (hSh.1.l 20 rfl _) c6 ?_
      show RN xs L al (Ev xs L al d) 102 44 [(4, .int r4), (3, .int r1), (0, .ref 18), (1, .long x1)] [.int ((mX m 26 r1.toNatClampNeg))] (m, S) (some (.int r0)) (m, S)
      refine rsn 3 (t := (48, [(4, .int r4), (3, .int r1), (0, .ref 18), (1, .long x1)], [.ref 18, .int ((((mX m 26 r1.toNatClampNeg)) + r4))])) rfl ?_
      refine pgI rfl rfl rfl (hSh.1.k 18 rfl _) ?_
      show RN xs L al (Ev xs L al d) 102 51 [(4, .int r4), (3, .int r1), (0, .ref 18), (1, .long x1)] [.int ((mI m 18 10)), .int ((((mX m 26 r1.toNatClampNeg)) + r4))] (m, S) (some (.int r0)) (m, S)
      refine rsn 3 (t := (54, [(4, .int r4), (3, .int r1), (0, .ref 18), (1, .long x1)], [.long x1, .ref 18, .int ((((((mX m 26 r1.toNatClampNeg)) + r4)) * ((mI m 18 10))))])) rfl ?_
      obtain ⟨r7, g7, h⟩ := b1_some h
      refine rcV 83 18 [.long x1] rfl rfl rfl (hSh.1.k 18 rfl _) (Nat.le_of_ble_eq_true rfl) rfl (e_Ranks_lateOf N (by omega) hSh g7) ?_
      show RN xs L al (Ev xs L al d) 102 57 [(4, .int r4), (3, .int r1), (0, .ref 18), (1, .long x1)] [.int r7, .int ((((((mX m 26 r1.toNatClampNeg)) + r4)) * ((mI m 18 10))))] (m, S) (some (.int r0)) (m, S)
      refine rsn 1 (t := (58, [(4, .int r4), (3, .int r1), (0, .ref 18), (1, .long x1)], [.int ((((((((mX m 26 r1.toNatClampNeg)) + r4)) * ((mI m 18 10)))) + r7))])) rfl ?_
      have h := Option.some.inj h
      subst h
      exact rret rfl ⟨rfl, rfl, _, _, rfl, rfl, rfl, rfl⟩
  · rw [if_neg c2] at h
    refine rjf (a := (15, [(3, .int r1), (0, .ref 18), (1, .long x1)], [])) (b := (13, [(3, .int r1), (0, .ref 18), (1, .long x1)], [])) rfl rfl c2 ?_
    refine rsn 1 (t := (14, [(3, .int r1), (0, .ref 18), (1, .long x1)], [.int ((-1))])) rfl ?_
    have h := Option.some.inj h
    subst h
    exact rret rfl ⟨rfl, rfl, _, _, rfl, rfl, rfl, rfl⟩
def f_Sight_holdable (N : Nat) (S : St) (x0 : Nat) (m : Mm) : Option (Int32) := (if ((mI m x0 3)) = 2 then some ((((mI m 10 2)) + 1)) else some ((mI m 10 2)))
set_option maxRecDepth 20000 in
set_option maxHeartbeats 4000000 in
theorem e_Sight_holdable {xs : Nat → Int32} {L : Nat} {al : Bool} (N : Nat) {d : Nat} (hd : 1 ≤ d) {S : St} (hSh : ShC S) {x0 : Nat} (hx0 : x0 ∈ sKl) {m : Mm} {r0 : Int32} (h : f_Sight_holdable N S x0 m = some r0) : Ev xs L al d 106 [.ref x0] (m, S) (some (.int r0)) (m, S) := by
  obtain ⟨d, rfl⟩ : ∃ e, d = e + 1 := ⟨d - 1, by omega⟩
  refine ev_of (by decide) (Nat.le_of_ble_eq_true rfl) ?_
  rw [f_Sight_holdable] at h
  show RN xs L al (Ev xs L al d) 106 0 [(0, .ref x0)] [] (m, S) (some (.int r0)) (m, S)
  refine rsn 1 (t := (1, [(0, .ref x0)], [.ref x0])) rfl ?_
  refine pgI rfl rfl rfl (hSh.kS hx0 _) ?_
  show RN xs L al (Ev xs L al d) 106 4 [(0, .ref x0)] [.int ((mI m x0 3))] (m, S) (some (.int r0)) (m, S)
  refine rsn 1 (t := (5, [(0, .ref x0)], [.int 2, .int ((mI m x0 3))])) rfl ?_
  by_cases c1 : ((mI m x0 3)) = 2
  · rw [if_pos c1] at h
    refine rjf (a := (20, [(0, .ref x0)], [])) (b := (8, [(0, .ref x0)], [])) rfl rfl (fun q => q c1) ?_
    refine rsn 1 (t := (9, [(0, .ref x0)], [.ref x0])) rfl ?_
    refine rgR rfl rfl rfl (hSh.kS hx0 _) (hSh.rS1 hx0 _) ?_
    refine pgI rfl rfl rfl (hSh.1.k 10 rfl _) ?_
    show RN xs L al (Ev xs L al d) 106 15 [(0, .ref x0)] [.int ((mI m 10 2))] (m, S) (some (.int r0)) (m, S)
    refine rsn 3 (t := (27, [(0, .ref x0)], [.int ((((mI m 10 2)) + 1))])) rfl ?_
    have h := Option.some.inj h
    subst h
    exact rret rfl ⟨rfl, rfl, _, _, rfl, rfl, rfl, rfl⟩
  · rw [if_neg c1] at h
    refine rjt (a := (20, [(0, .ref x0)], [])) (b := (8, [(0, .ref x0)], [])) rfl rfl c1 ?_
    refine rsn 1 (t := (21, [(0, .ref x0)], [.ref x0])) rfl ?_
    refine rgR rfl rfl rfl (hSh.kS hx0 _) (hSh.rS1 hx0 _) ?_
    refine pgI rfl rfl rfl (hSh.1.k 10 rfl _) ?_
    show RN xs L al (Ev xs L al d) 106 27 [(0, .ref x0)] [.int ((mI m 10 2))] (m, S) (some (.int r0)) (m, S)
    have h := Option.some.inj h
    subst h
    exact rret rfl ⟨rfl, rfl, _, _, rfl, rfl, rfl, rfl⟩
def f_SC_thousandths_L11 (N : Nat) (S : St) (x1 : Int64) (m : Mm) (k11 : Int64 → Int32 → Option (Int32)) : Nat → Int64 → Int32 → Option (Int32)
  | 0, _, _ => none
  | n11 + 1, x3, x5 => (if ((mI m 10 1)) ≤ x5 then k11 x3 x5 else f_SC_thousandths_L11 N S x1 m k11 n11 ((x3 * 12)) ((x5 + 1)))
def f_SC_thousandths (N : Nat) (S : St) (x1 : Int64) (m : Mm) : Option (Int32) := b1 (f_State_dayOf N ((mJ m 0 7))) fun r1 => f_SC_thousandths_L11 N S x1 m (fun (z3_3 : Int64) (z3_5 : Int32) => ck (¬ z3_3 = 0) (some (((((x1 * 1000)) / z3_3)).toInt32))) N 1 r1
set_option maxRecDepth 20000 in
set_option maxHeartbeats 4000000 in
theorem e_SC_thousandths {xs : Nat → Int32} {L : Nat} {al : Bool} (N : Nat) {d : Nat} (hd : 2 ≤ d) {S : St} (hSh : ShC S) {x1 : Int64} {m : Mm} {r0 : Int32} (h : f_SC_thousandths N S x1 m = some r0) : Ev xs L al d 108 [.ref 0, .long x1] (m, S) (some (.int r0)) (m, S) := by
  obtain ⟨d, rfl⟩ : ∃ e, d = e + 1 := ⟨d - 1, by omega⟩
  refine ev_of (by decide) (Nat.le_of_ble_eq_true rfl) ?_
  rw [f_SC_thousandths] at h
  show RN xs L al (Ev xs L al d) 108 0 [(0, .ref 0), (1, .long x1)] [] (m, S) (some (.int r0)) (m, S)
  refine rsn 3 (t := (3, [(3, .long 1), (0, .ref 0), (1, .long x1)], [.ref 0])) rfl ?_
  refine pgJ rfl rfl rfl (hSh.1.k 0 rfl _) ?_
  show RN xs L al (Ev xs L al d) 108 6 [(3, .long 1), (0, .ref 0), (1, .long x1)] [.long ((mJ m 0 7))] (m, S) (some (.int r0)) (m, S)
  obtain ⟨r1, g1, h⟩ := b1_some h
  refine rcS 63 [.long ((mJ m 0 7))] rfl rfl rfl (Nat.le_of_ble_eq_true rfl) rfl (e_State_dayOf N (by omega) g1) ?_
  show RN xs L al (Ev xs L al d) 108 9 [(3, .long 1), (0, .ref 0), (1, .long x1)] [.int r1] (m, S) (some (.int r0)) (m, S)
  refine rsn 1 (t := (11, [(5, .int r1), (3, .long 1), (0, .ref 0), (1, .long x1)], [])) rfl ?_
  have ex11 : ∀ (z3_3 : Int64) (z3_5 : Int32), (ck (¬ z3_3 = 0) (some (((((x1 * 1000)) / z3_3)).toInt32))) = some r0 → RN xs L al (Ev xs L al d) 108 35 [(1, .long x1), (3, .long z3_3)] [] (m, S) (some (.int r0)) (m, S) := by
    intro z3_3 z3_5 h
    try dsimp only at h
    refine rsn 4 (t := (41, [(1, .long x1), (3, .long z3_3)], [.long z3_3, .long ((x1 * 1000))])) rfl ?_
    obtain ⟨c4, h⟩ := ck_some h
    refine rs (t := (42, [(1, .long x1), (3, .long z3_3)], [.long ((((x1 * 1000)) / z3_3))])) rfl (by simp [stp, nxt, dJ, c4, irm, lrm]) ?_
    refine rsn 1 (t := (43, [(1, .long x1), (3, .long z3_3)], [.int (((((x1 * 1000)) / z3_3)).toInt32)])) rfl ?_
    have h := Option.some.inj h
    subst h
    exact rret rfl ⟨rfl, rfl, _, _, rfl, rfl, rfl, rfl⟩
  have lp11 : ∀ (n : Nat) (y5_3 : Int64) (y5_5 : Int32), (f_SC_thousandths_L11 N S x1 m (fun (z3_3 : Int64) (z3_5 : Int32) => ck (¬ z3_3 = 0) (some (((((x1 * 1000)) / z3_3)).toInt32))) n y5_3 y5_5) = some r0 → RN xs L al (Ev xs L al d) 108 11 [(0, .ref 0), (1, .long x1), (3, .long y5_3), (5, .int y5_5)] [] (m, S) (some (.int r0)) (m, S) := by
    intro n
    induction n with
    | zero => intro y5_3 y5_5 h; exact absurd h (by simp [f_SC_thousandths_L11])
    | succ n11 ih11 =>
      intro y5_3 y5_5 h
      try dsimp only at h
      rw [f_SC_thousandths_L11] at h
      try dsimp only at h
      refine rsn 2 (t := (14, [(0, .ref 0), (1, .long x1), (3, .long y5_3), (5, .int y5_5)], [.ref 0, .int y5_5])) rfl ?_
      refine rgR rfl rfl rfl (hSh.1.k 0 rfl _) (hSh.1.r 88 rfl _) ?_
      refine pgI rfl rfl rfl (hSh.1.k 10 rfl _) ?_
      show RN xs L al (Ev xs L al d) 108 20 [(0, .ref 0), (1, .long x1), (3, .long y5_3), (5, .int y5_5)] [.int ((mI m 10 1)), .int y5_5] (m, S) (some (.int r0)) (m, S)
      by_cases c6 : ((mI m 10 1)) ≤ y5_5
      · rw [if_pos c6] at h
        refine rjt (a := (35, [(0, .ref 0), (1, .long x1), (3, .long y5_3), (5, .int y5_5)], [])) (b := (23, [(0, .ref 0), (1, .long x1), (3, .long y5_3), (5, .int y5_5)], [])) rfl rfl c6 ?_
        exact rsub [(1, .long x1), (3, .long y5_3)] ⟨rfl, ⟨rfl, trivial⟩⟩ ⟨rfl, ⟨rfl, trivial⟩⟩ (ex11 y5_3 y5_5 h)
      · rw [if_neg c6] at h
        refine rjf (a := (35, [(0, .ref 0), (1, .long x1), (3, .long y5_3), (5, .int y5_5)], [])) (b := (23, [(0, .ref 0), (1, .long x1), (3, .long y5_3), (5, .int y5_5)], [])) rfl rfl c6 ?_
        refine rsn 6 (t := (11, [(5, .int ((y5_5 + 1))), (3, .long ((y5_3 * 12))), (0, .ref 0), (1, .long x1)], [])) rfl ?_
        exact rsub [(0, .ref 0), (1, .long x1), (3, .long ((y5_3 * 12))), (5, .int ((y5_5 + 1)))] ⟨rfl, ⟨rfl, ⟨rfl, ⟨rfl, trivial⟩⟩⟩⟩ ⟨rfl, ⟨rfl, ⟨rfl, ⟨rfl, trivial⟩⟩⟩⟩ (ih11 ((y5_3 * 12)) ((y5_5 + 1)) h)
  exact rsub [(0, .ref 0), (1, .long x1), (3, .long 1), (5, .int r1)] ⟨rfl, ⟨rfl, ⟨rfl, ⟨rfl, trivial⟩⟩⟩⟩ ⟨rfl, ⟨rfl, ⟨rfl, ⟨rfl, trivial⟩⟩⟩⟩ (lp11 N 1 r1 h)
def f_Rows_canHoldGifts (N : Nat) (S : St) (x1 : Int32) (x2 : Int64) (m : Mm) : Option (Int32) := (if x1 < 0 then some 0 else b1 (f_State_dayOf N x2) fun r2 => (if ((ius x1 ((2 * ((((mI m 10 1)) - r2)))))) = 0 then some 1 else some 0))
set_option maxRecDepth 20000 in
set_option maxHeartbeats 4000000 in
theorem e_Rows_canHoldGifts {xs : Nat → Int32} {L : Nat} {al : Bool} (N : Nat) {d : Nat} (hd : 2 ≤ d) {S : St} (hSh : ShC S) {x1 : Int32} {x2 : Int64} {m : Mm} {r0 : Int32} (h : f_Rows_canHoldGifts N S x1 x2 m = some r0) : Ev xs L al d 116 [.ref 30, .int x1, .long x2] (m, S) (some (.int r0)) (m, S) := by
  obtain ⟨d, rfl⟩ : ∃ e, d = e + 1 := ⟨d - 1, by omega⟩
  refine ev_of (by decide) (Nat.le_of_ble_eq_true rfl) ?_
  rw [f_Rows_canHoldGifts] at h
  show RN xs L al (Ev xs L al d) 116 0 [(0, .ref 30), (1, .int x1), (2, .long x2)] [] (m, S) (some (.int r0)) (m, S)
  refine rsn 1 (t := (1, [(0, .ref 30), (1, .int x1), (2, .long x2)], [.int x1])) rfl ?_
  by_cases c1 : x1 < 0
  · rw [if_pos c1] at h
    refine rjt (a := (27, [(0, .ref 30), (1, .int x1), (2, .long x2)], [])) (b := (4, [(0, .ref 30), (1, .int x1), (2, .long x2)], [])) rfl rfl c1 ?_
    refine rsn 1 (t := (28, [(0, .ref 30), (1, .int x1), (2, .long x2)], [.int 0])) rfl ?_
    have h := Option.some.inj h
    subst h
    exact rret rfl ⟨rfl, rfl, _, _, rfl, rfl, rfl, rfl⟩
  · rw [if_neg c1] at h
    refine rjf (a := (27, [(0, .ref 30), (1, .int x1), (2, .long x2)], [])) (b := (4, [(0, .ref 30), (1, .int x1), (2, .long x2)], [])) rfl rfl c1 ?_
    refine rsn 3 (t := (7, [(0, .ref 30), (1, .int x1), (2, .long x2)], [.ref 30, .int 2, .int x1])) rfl ?_
    refine rgR rfl rfl rfl (hSh.1.k 30 rfl _) (hSh.1.r 100 rfl _) ?_
    refine pgI rfl rfl rfl (hSh.1.k 10 rfl _) ?_
    show RN xs L al (Ev xs L al d) 116 13 [(0, .ref 30), (1, .int x1), (2, .long x2)] [.int ((mI m 10 1)), .int 2, .int x1] (m, S) (some (.int r0)) (m, S)
    refine rsn 1 (t := (14, [(0, .ref 30), (1, .int x1), (2, .long x2)], [.long x2, .int ((mI m 10 1)), .int 2, .int x1])) rfl ?_
    obtain ⟨r2, g2, h⟩ := b1_some h
    refine rcS 63 [.long x2] rfl rfl rfl (Nat.le_of_ble_eq_true rfl) rfl (e_State_dayOf N (by omega) g2) ?_
    show RN xs L al (Ev xs L al d) 116 17 [(0, .ref 30), (1, .int x1), (2, .long x2)] [.int r2, .int ((mI m 10 1)), .int 2, .int x1] (m, S) (some (.int r0)) (m, S)
    refine rsn 3 (t := (20, [(0, .ref 30), (1, .int x1), (2, .long x2)], [.int ((ius x1 ((2 * ((((mI m 10 1)) - r2))))))])) rfl ?_
    by_cases c3 : ((ius x1 ((2 * ((((mI m 10 1)) - r2)))))) = 0
    · rw [if_pos c3] at h
      refine rjf (a := (27, [(0, .ref 30), (1, .int x1), (2, .long x2)], [])) (b := (23, [(0, .ref 30), (1, .int x1), (2, .long x2)], [])) rfl rfl (fun q => q c3) ?_
      refine rsn 2 (t := (28, [(0, .ref 30), (1, .int x1), (2, .long x2)], [.int 1])) rfl ?_
      have h := Option.some.inj h
      subst h
      exact rret rfl ⟨rfl, rfl, _, _, rfl, rfl, rfl, rfl⟩
    · rw [if_neg c3] at h
      refine rjt (a := (27, [(0, .ref 30), (1, .int x1), (2, .long x2)], [])) (b := (23, [(0, .ref 30), (1, .int x1), (2, .long x2)], [])) rfl rfl c3 ?_
      refine rsn 1 (t := (28, [(0, .ref 30), (1, .int x1), (2, .long x2)], [.int 0])) rfl ?_
      have h := Option.some.inj h
      subst h
      exact rret rfl ⟨rfl, rfl, _, _, rfl, rfl, rfl, rfl⟩
def f_Rows_canBe_L10 (N : Nat) (S : St) (x1 : Int32) (x2 : Int64) (x4 : Int32) (m : Mm) (k10 : Int32 → Option (Int32)) : Nat → Int32 → Option (Int32)
  | 0, _ => none
  | n10 + 1, x5 => (if ((mI m 10 1)) ≤ x5 then k10 x5 else b1 (f_Rows_digit N x1 ((x5 - x4))) fun r3 => b1 (f_Will_isAlt N S 10 x5 r3 m) fun r4 => (if r4 = 0 then some 0 else f_Rows_canBe_L10 N S x1 x2 x4 m k10 n10 ((x5 + 1))))
def f_Rows_canBe (N : Nat) (S : St) (x1 : Int32) (x2 : Int64) (m : Mm) : Option (Int32) := b1 (f_State_dayOf N x2) fun r1 => f_Rows_canBe_L10 N S x1 x2 r1 m (fun (z6_5 : Int32) => b1 (f_Rows_canHoldGifts N S x1 x2 m) fun r7 => ck (r7 = 0 ∨ r7 = 1) (some r7)) N r1
set_option maxRecDepth 20000 in
set_option maxHeartbeats 4000000 in
theorem e_Rows_canBe {xs : Nat → Int32} {L : Nat} {al : Bool} (N : Nat) {d : Nat} (hd : 3 ≤ d) {S : St} (hSh : ShC S) {x1 : Int32} {x2 : Int64} {m : Mm} {r0 : Int32} (h : f_Rows_canBe N S x1 x2 m = some r0) : Ev xs L al d 114 [.ref 30, .int x1, .long x2] (m, S) (some (.int r0)) (m, S) := by
  obtain ⟨d, rfl⟩ : ∃ e, d = e + 1 := ⟨d - 1, by omega⟩
  refine ev_of (by decide) (Nat.le_of_ble_eq_true rfl) ?_
  rw [f_Rows_canBe] at h
  show RN xs L al (Ev xs L al d) 114 0 [(0, .ref 30), (1, .int x1), (2, .long x2)] [] (m, S) (some (.int r0)) (m, S)
  refine rsn 1 (t := (1, [(0, .ref 30), (1, .int x1), (2, .long x2)], [.long x2])) rfl ?_
  obtain ⟨r1, g1, h⟩ := b1_some h
  refine rcS 63 [.long x2] rfl rfl rfl (Nat.le_of_ble_eq_true rfl) rfl (e_State_dayOf N (by omega) g1) ?_
  show RN xs L al (Ev xs L al d) 114 4 [(0, .ref 30), (1, .int x1), (2, .long x2)] [.int r1] (m, S) (some (.int r0)) (m, S)
  refine rsn 3 (t := (10, [(5, .int r1), (4, .int r1), (0, .ref 30), (1, .int x1), (2, .long x2)], [])) rfl ?_
  have ex10 : ∀ (z6_5 : Int32), (b1 (f_Rows_canHoldGifts N S x1 x2 m) fun r7 => ck (r7 = 0 ∨ r7 = 1) (some r7)) = some r0 → RN xs L al (Ev xs L al d) 114 51 [(0, .ref 30), (1, .int x1), (2, .long x2)] [] (m, S) (some (.int r0)) (m, S) := by
    intro z6_5 h
    try dsimp only at h
    refine rsn 3 (t := (54, [(0, .ref 30), (1, .int x1), (2, .long x2)], [.long x2, .int x1, .ref 30])) rfl ?_
    obtain ⟨r7, g7, h⟩ := b1_some h
    refine rcV 116 30 [.int x1, .long x2] rfl rfl rfl (hSh.1.k 30 rfl _) (Nat.le_of_ble_eq_true rfl) rfl (e_Rows_canHoldGifts N (by omega) hSh g7) ?_
    show RN xs L al (Ev xs L al d) 114 57 [(0, .ref 30), (1, .int x1), (2, .long x2)] [.int r7] (m, S) (some (.int r0)) (m, S)
    obtain ⟨c8, h⟩ := ck_some h
    have h := Option.some.inj h
    subst h
    exact rret rfl ⟨rfl, rfl, _, _, rfl, rfl, rfl, nz_of c8⟩
  have lp10 : ∀ (n : Nat) (y9_5 : Int32), (f_Rows_canBe_L10 N S x1 x2 r1 m (fun (z6_5 : Int32) => b1 (f_Rows_canHoldGifts N S x1 x2 m) fun r7 => ck (r7 = 0 ∨ r7 = 1) (some r7)) n y9_5) = some r0 → RN xs L al (Ev xs L al d) 114 10 [(0, .ref 30), (1, .int x1), (2, .long x2), (4, .int r1), (5, .int y9_5)] [] (m, S) (some (.int r0)) (m, S) := by
    intro n
    induction n with
    | zero => intro y9_5 h; exact absurd h (by simp [f_Rows_canBe_L10])
    | succ n10 ih10 =>
      intro y9_5 h
      try dsimp only at h
      rw [f_Rows_canBe_L10] at h
      try dsimp only at h
      refine rsn 2 (t := (13, [(0, .ref 30), (1, .int x1), (2, .long x2), (4, .int r1), (5, .int y9_5)], [.ref 30, .int y9_5])) rfl ?_
      refine rgR rfl rfl rfl (hSh.1.k 30 rfl _) (hSh.1.r 100 rfl _) ?_
      refine pgI rfl rfl rfl (hSh.1.k 10 rfl _) ?_
      show RN xs L al (Ev xs L al d) 114 19 [(0, .ref 30), (1, .int x1), (2, .long x2), (4, .int r1), (5, .int y9_5)] [.int ((mI m 10 1)), .int y9_5] (m, S) (some (.int r0)) (m, S)
      by_cases c10 : ((mI m 10 1)) ≤ y9_5
      · rw [if_pos c10] at h
        refine rjt (a := (51, [(0, .ref 30), (1, .int x1), (2, .long x2), (4, .int r1), (5, .int y9_5)], [])) (b := (22, [(0, .ref 30), (1, .int x1), (2, .long x2), (4, .int r1), (5, .int y9_5)], [])) rfl rfl c10 ?_
        exact rsub [(0, .ref 30), (1, .int x1), (2, .long x2)] ⟨rfl, ⟨rfl, ⟨rfl, trivial⟩⟩⟩ ⟨rfl, ⟨rfl, ⟨rfl, trivial⟩⟩⟩ (ex10 y9_5 h)
      · rw [if_neg c10] at h
        refine rjf (a := (51, [(0, .ref 30), (1, .int x1), (2, .long x2), (4, .int r1), (5, .int y9_5)], [])) (b := (22, [(0, .ref 30), (1, .int x1), (2, .long x2), (4, .int r1), (5, .int y9_5)], [])) rfl rfl c10 ?_
        refine rsn 1 (t := (23, [(0, .ref 30), (1, .int x1), (2, .long x2), (4, .int r1), (5, .int y9_5)], [.ref 30])) rfl ?_
        refine rgR rfl rfl rfl (hSh.1.k 30 rfl _) (hSh.1.r 100 rfl _) ?_
        refine rsn 5 (t := (34, [(0, .ref 30), (1, .int x1), (2, .long x2), (4, .int r1), (5, .int y9_5)], [.int ((y9_5 - r1)), .int x1, .int y9_5, .ref 10])) rfl ?_
        obtain ⟨r11, g11, h⟩ := b1_some h
        refine rcS 115 [.int x1, .int ((y9_5 - r1))] rfl rfl rfl (Nat.le_of_ble_eq_true rfl) rfl (e_Rows_digit N (by omega) g11) ?_
        show RN xs L al (Ev xs L al d) 114 37 [(0, .ref 30), (1, .int x1), (2, .long x2), (4, .int r1), (5, .int y9_5)] [.int r11, .int y9_5, .ref 10] (m, S) (some (.int r0)) (m, S)
        obtain ⟨r12, g12, h⟩ := b1_some h
        refine rcV 50 10 [.int y9_5, .int r11] rfl rfl rfl (hSh.1.k 10 rfl _) (Nat.le_of_ble_eq_true rfl) rfl (e_Will_isAlt N (by omega) hSh (by decide) g12) ?_
        show RN xs L al (Ev xs L al d) 114 40 [(0, .ref 30), (1, .int x1), (2, .long x2), (4, .int r1), (5, .int y9_5)] [.int r12] (m, S) (some (.int r0)) (m, S)
        by_cases c13 : r12 = 0
        · rw [if_pos c13] at h
          refine rjf (a := (45, [(0, .ref 30), (1, .int x1), (2, .long x2), (4, .int r1), (5, .int y9_5)], [])) (b := (43, [(0, .ref 30), (1, .int x1), (2, .long x2), (4, .int r1), (5, .int y9_5)], [])) rfl rfl (fun q => q c13) ?_
          refine rsn 1 (t := (44, [(0, .ref 30), (1, .int x1), (2, .long x2), (4, .int r1), (5, .int y9_5)], [.int 0])) rfl ?_
          have h := Option.some.inj h
          subst h
          exact rret rfl ⟨rfl, rfl, _, _, rfl, rfl, rfl, rfl⟩
        · rw [if_neg c13] at h
          refine rjt (a := (45, [(0, .ref 30), (1, .int x1), (2, .long x2), (4, .int r1), (5, .int y9_5)], [])) (b := (43, [(0, .ref 30), (1, .int x1), (2, .long x2), (4, .int r1), (5, .int y9_5)], [])) rfl rfl c13 ?_
          refine rsn 2 (t := (10, [(5, .int ((y9_5 + 1))), (0, .ref 30), (1, .int x1), (2, .long x2), (4, .int r1)], [])) rfl ?_
          exact rsub [(0, .ref 30), (1, .int x1), (2, .long x2), (4, .int r1), (5, .int ((y9_5 + 1)))] ⟨rfl, ⟨rfl, ⟨rfl, ⟨rfl, ⟨rfl, trivial⟩⟩⟩⟩⟩ ⟨rfl, ⟨rfl, ⟨rfl, ⟨rfl, ⟨rfl, trivial⟩⟩⟩⟩⟩ (ih10 ((y9_5 + 1)) h)
  exact rsub [(0, .ref 30), (1, .int x1), (2, .long x2), (4, .int r1), (5, .int r1)] ⟨rfl, ⟨rfl, ⟨rfl, ⟨rfl, ⟨rfl, trivial⟩⟩⟩⟩⟩ ⟨rfl, ⟨rfl, ⟨rfl, ⟨rfl, ⟨rfl, trivial⟩⟩⟩⟩⟩ (lp10 N r1 h)
def f_Rows_traced (N : Nat) (S : St) (x1 : Int64) (x3 : Int32) (x4 : Int32) (m : Mm) : Option (Int64) := b1 (f_Will_thing N S 10 x3 x4 m) fun r1 => b1 (f_Will_passed N S 10 x1 x3 x4 m) fun r2 => (if r1 = ((-1)) then some r2 else b1 (f_Ranks_lateOf N S x1 m) fun r4 => b1 (f_State_with N r2 r1 r4) fun r5 => some r5)
set_option maxRecDepth 20000 in
set_option maxHeartbeats 4000000 in
theorem e_Rows_traced {xs : Nat → Int32} {L : Nat} {al : Bool} (N : Nat) {d : Nat} (hd : 4 ≤ d) {S : St} (hSh : ShC S) {x1 : Int64} {x3 : Int32} {x4 : Int32} {m : Mm} {r0 : Int64} (h : f_Rows_traced N S x1 x3 x4 m = some r0) : Ev xs L al d 118 [.ref 30, .long x1, .int x3, .int x4] (m, S) (some (.long r0)) (m, S) := by
  obtain ⟨d, rfl⟩ : ∃ e, d = e + 1 := ⟨d - 1, by omega⟩
  refine ev_of (by decide) (Nat.le_of_ble_eq_true rfl) ?_
  rw [f_Rows_traced] at h
  show RN xs L al (Ev xs L al d) 118 0 [(0, .ref 30), (1, .long x1), (3, .int x3), (4, .int x4)] [] (m, S) (some (.long r0)) (m, S)
  refine rsn 1 (t := (1, [(0, .ref 30), (1, .long x1), (3, .int x3), (4, .int x4)], [.ref 30])) rfl ?_
  refine rgR rfl rfl rfl (hSh.1.k 30 rfl _) (hSh.1.r 100 rfl _) ?_
  refine rsn 2 (t := (7, [(0, .ref 30), (1, .long x1), (3, .int x3), (4, .int x4)], [.int x4, .int x3, .ref 10])) rfl ?_
  obtain ⟨r1, g1, h⟩ := b1_some h
  refine rcV 64 10 [.int x3, .int x4] rfl rfl rfl (hSh.1.k 10 rfl _) (Nat.le_of_ble_eq_true rfl) rfl (e_Will_thing N (by omega) hSh (by decide) g1) ?_
  show RN xs L al (Ev xs L al d) 118 10 [(0, .ref 30), (1, .long x1), (3, .int x3), (4, .int x4)] [.int r1] (m, S) (some (.long r0)) (m, S)
  refine rsn 2 (t := (13, [(5, .int r1), (0, .ref 30), (1, .long x1), (3, .int x3), (4, .int x4)], [.ref 30])) rfl ?_
  refine rgR rfl rfl rfl (hSh.1.k 30 rfl _) (hSh.1.r 100 rfl _) ?_
  refine rsn 3 (t := (20, [(5, .int r1), (0, .ref 30), (1, .long x1), (3, .int x3), (4, .int x4)], [.int x4, .int x3, .long x1, .ref 10])) rfl ?_
  obtain ⟨r2, g2, h⟩ := b1_some h
  refine rcV 65 10 [.long x1, .int x3, .int x4] rfl rfl rfl (hSh.1.k 10 rfl _) (Nat.le_of_ble_eq_true rfl) rfl (e_Will_passed N (by omega) hSh (by decide) g2) ?_
  show RN xs L al (Ev xs L al d) 118 23 [(5, .int r1), (0, .ref 30), (1, .long x1), (3, .int x3), (4, .int x4)] [.long r2] (m, S) (some (.long r0)) (m, S)
  refine rsn 3 (t := (28, [(6, .long r2), (5, .int r1), (0, .ref 30), (1, .long x1), (3, .int x3), (4, .int x4)], [.int ((-1)), .int r1])) rfl ?_
  by_cases c3 : r1 = ((-1))
  · rw [if_pos c3] at h
    refine rjf (a := (36, [(6, .long r2), (5, .int r1), (0, .ref 30), (1, .long x1), (3, .int x3), (4, .int x4)], [])) (b := (31, [(6, .long r2), (5, .int r1), (0, .ref 30), (1, .long x1), (3, .int x3), (4, .int x4)], [])) rfl rfl (fun q => q c3) ?_
    refine rsn 2 (t := (51, [(6, .long r2), (5, .int r1), (0, .ref 30), (1, .long x1), (3, .int x3), (4, .int x4)], [.long r2])) rfl ?_
    have h := Option.some.inj h
    subst h
    exact rret rfl ⟨rfl, rfl, _, rfl, rfl, rfl⟩
  · rw [if_neg c3] at h
    refine rjt (a := (36, [(6, .long r2), (5, .int r1), (0, .ref 30), (1, .long x1), (3, .int x3), (4, .int x4)], [])) (b := (31, [(6, .long r2), (5, .int r1), (0, .ref 30), (1, .long x1), (3, .int x3), (4, .int x4)], [])) rfl rfl c3 ?_
    refine rsn 3 (t := (41, [(6, .long r2), (5, .int r1), (0, .ref 30), (1, .long x1), (3, .int x3), (4, .int x4)], [.ref 30, .int r1, .long r2])) rfl ?_
    refine rgR rfl rfl rfl (hSh.1.k 30 rfl _) (hSh.1.r 101 rfl _) ?_
    refine rsn 1 (t := (45, [(6, .long r2), (5, .int r1), (0, .ref 30), (1, .long x1), (3, .int x3), (4, .int x4)], [.long x1, .ref 18, .int r1, .long r2])) rfl ?_
    obtain ⟨r4, g4, h⟩ := b1_some h
    refine rcV 83 18 [.long x1] rfl rfl rfl (hSh.1.k 18 rfl _) (Nat.le_of_ble_eq_true rfl) rfl (e_Ranks_lateOf N (by omega) hSh g4) ?_
    show RN xs L al (Ev xs L al d) 118 48 [(6, .long r2), (5, .int r1), (0, .ref 30), (1, .long x1), (3, .int x3), (4, .int x4)] [.int r4, .int r1, .long r2] (m, S) (some (.long r0)) (m, S)
    obtain ⟨r5, g5, h⟩ := b1_some h
    refine rcS 70 [.long r2, .int r1, .int r4] rfl rfl rfl (Nat.le_of_ble_eq_true rfl) rfl (e_State_with N (by omega) g5) ?_
    show RN xs L al (Ev xs L al d) 118 51 [(6, .long r2), (5, .int r1), (0, .ref 30), (1, .long x1), (3, .int x3), (4, .int x4)] [.long r5] (m, S) (some (.long r0)) (m, S)
    have h := Option.some.inj h
    subst h
    exact rret rfl ⟨rfl, rfl, _, rfl, rfl, rfl⟩
def f_Ranks_cameWith (N : Nat) (S : St) (x1 : Int32) (m : Mm) : Option (Int32) := (if x1 < 0 then some 0 else (if 8 ≤ x1 then some 0 else ck (ix x1 8) (some ((mX m 28 x1.toNatClampNeg)))))
set_option maxRecDepth 20000 in
set_option maxHeartbeats 4000000 in
theorem e_Ranks_cameWith {xs : Nat → Int32} {L : Nat} {al : Bool} (N : Nat) {d : Nat} (hd : 1 ≤ d) {S : St} (hSh : ShC S) {x1 : Int32} {m : Mm} {r0 : Int32} (h : f_Ranks_cameWith N S x1 m = some r0) : Ev xs L al d 121 [.ref 18, .int x1] (m, S) (some (.int r0)) (m, S) := by
  obtain ⟨d, rfl⟩ : ∃ e, d = e + 1 := ⟨d - 1, by omega⟩
  refine ev_of (by decide) (Nat.le_of_ble_eq_true rfl) ?_
  rw [f_Ranks_cameWith] at h
  show RN xs L al (Ev xs L al d) 121 0 [(0, .ref 18), (1, .int x1)] [] (m, S) (some (.int r0)) (m, S)
  refine rsn 1 (t := (1, [(0, .ref 18), (1, .int x1)], [.int x1])) rfl ?_
  by_cases c1 : x1 < 0
  · rw [if_pos c1] at h
    refine rjt (a := (19, [(0, .ref 18), (1, .int x1)], [])) (b := (4, [(0, .ref 18), (1, .int x1)], [])) rfl rfl c1 ?_
    refine rsn 1 (t := (20, [(0, .ref 18), (1, .int x1)], [.int 0])) rfl ?_
    have h := Option.some.inj h
    subst h
    exact rret rfl ⟨rfl, rfl, _, _, rfl, rfl, rfl, rfl⟩
  · rw [if_neg c1] at h
    refine rjf (a := (19, [(0, .ref 18), (1, .int x1)], [])) (b := (4, [(0, .ref 18), (1, .int x1)], [])) rfl rfl c1 ?_
    refine rsn 2 (t := (7, [(0, .ref 18), (1, .int x1)], [.int 8, .int x1])) rfl ?_
    by_cases c2 : 8 ≤ x1
    · rw [if_pos c2] at h
      refine rjt (a := (19, [(0, .ref 18), (1, .int x1)], [])) (b := (10, [(0, .ref 18), (1, .int x1)], [])) rfl rfl c2 ?_
      refine rsn 1 (t := (20, [(0, .ref 18), (1, .int x1)], [.int 0])) rfl ?_
      have h := Option.some.inj h
      subst h
      exact rret rfl ⟨rfl, rfl, _, _, rfl, rfl, rfl, rfl⟩
    · rw [if_neg c2] at h
      refine rjf (a := (19, [(0, .ref 18), (1, .int x1)], [])) (b := (10, [(0, .ref 18), (1, .int x1)], [])) rfl rfl c2 ?_
      refine rsn 1 (t := (11, [(0, .ref 18), (1, .int x1)], [.ref 18])) rfl ?_
      refine rgR rfl rfl rfl (hSh.1.k 18 rfl _) (hSh.1.r 21 rfl _) ?_
      refine rsn 1 (t := (15, [(0, .ref 18), (1, .int x1)], [.int x1, .ref 28])) rfl ?_
      obtain ⟨c3, h⟩ := ck_some h
      refine pxI rfl (hSh.1.k 28 rfl _) (hSh.1.l 22 rfl _) c3 ?_
      show RN xs L al (Ev xs L al d) 121 16 [(0, .ref 18), (1, .int x1)] [.int ((mX m 28 x1.toNatClampNeg))] (m, S) (some (.int r0)) (m, S)
      refine rsn 1 (t := (20, [(0, .ref 18), (1, .int x1)], [.int ((mX m 28 x1.toNatClampNeg))])) rfl ?_
      have h := Option.some.inj h
      subst h
      exact rret rfl ⟨rfl, rfl, _, _, rfl, rfl, rfl, rfl⟩
def f_Ranks_allPlaces (N : Nat) (S : St) (m : Mm) : Option (Int32) := ck (ix ((((mI m 18 11)) + 1)) 8) (some ((((mX m 26 (((((mI m 18 11)) + 1)).toNatClampNeg))) * ((mI m 18 10)))))
set_option maxRecDepth 20000 in
set_option maxHeartbeats 4000000 in
theorem e_Ranks_allPlaces {xs : Nat → Int32} {L : Nat} {al : Bool} (N : Nat) {d : Nat} (hd : 1 ≤ d) {S : St} (hSh : ShC S) {m : Mm} {r0 : Int32} (h : f_Ranks_allPlaces N S m = some r0) : Ev xs L al d 124 [.ref 18] (m, S) (some (.int r0)) (m, S) := by
  obtain ⟨d, rfl⟩ : ∃ e, d = e + 1 := ⟨d - 1, by omega⟩
  refine ev_of (by decide) (Nat.le_of_ble_eq_true rfl) ?_
  rw [f_Ranks_allPlaces] at h
  show RN xs L al (Ev xs L al d) 124 0 [(0, .ref 18)] [] (m, S) (some (.int r0)) (m, S)
  refine rsn 1 (t := (1, [(0, .ref 18)], [.ref 18])) rfl ?_
  refine rgR rfl rfl rfl (hSh.1.k 18 rfl _) (hSh.1.r 19 rfl _) ?_
  refine rsn 1 (t := (5, [(0, .ref 18)], [.ref 18, .ref 26])) rfl ?_
  refine pgI rfl rfl rfl (hSh.1.k 18 rfl _) ?_
  show RN xs L al (Ev xs L al d) 124 8 [(0, .ref 18)] [.int ((mI m 18 11)), .ref 26] (m, S) (some (.int r0)) (m, S)
  refine rsn 2 (t := (10, [(0, .ref 18)], [.int ((((mI m 18 11)) + 1)), .ref 26])) rfl ?_
  obtain ⟨c1, h⟩ := ck_some h
  refine pxI rfl (hSh.1.k 26 rfl _) (hSh.1.l 20 rfl _) c1 ?_
  show RN xs L al (Ev xs L al d) 124 11 [(0, .ref 18)] [.int ((mX m 26 (((((mI m 18 11)) + 1)).toNatClampNeg)))] (m, S) (some (.int r0)) (m, S)
  refine rsn 1 (t := (12, [(0, .ref 18)], [.ref 18, .int ((mX m 26 (((((mI m 18 11)) + 1)).toNatClampNeg)))])) rfl ?_
  refine pgI rfl rfl rfl (hSh.1.k 18 rfl _) ?_
  show RN xs L al (Ev xs L al d) 124 15 [(0, .ref 18)] [.int ((mI m 18 10)), .int ((mX m 26 (((((mI m 18 11)) + 1)).toNatClampNeg)))] (m, S) (some (.int r0)) (m, S)
  refine rsn 1 (t := (16, [(0, .ref 18)], [.int ((((mX m 26 (((((mI m 18 11)) + 1)).toNatClampNeg))) * ((mI m 18 10))))])) rfl ?_
  have h := Option.some.inj h
  subst h
  exact rret rfl ⟨rfl, rfl, _, _, rfl, rfl, rfl, rfl⟩
def f_Rows_wasWalked (N : Nat) (S : St) (x1 : Int32) (m : Mm) : Option (Int32 × Mm) := (if x1 < 0 then some (0, m) else b1 (S.1 30 2) fun t2 => (if x1 < ((Int32.ofNat ((S.2.2.1 t2)))) then b1 (S.1 30 2) fun t4 => ck (ix x1 (S.2.2.1 t4)) ((jn (fun (s6 : Int32) => b1 (S.1 30 2) fun t7 => ck (ix x1 (S.2.2.1 t7)) (ck (s6 = 0 ∨ s6 = 1) (some (s6, (vX m t7 x1.toNatClampNeg ((mI m 30 3))))))) (fun j33 => if ((mX m t4 x1.toNatClampNeg)) = ((mI m 30 3)) then j33 1 else j33 0))) else some (0, m)))
set_option maxRecDepth 20000 in
set_option maxHeartbeats 4000000 in
theorem e_Rows_wasWalked {xs : Nat → Int32} {L : Nat} {al : Bool} (N : Nat) {d : Nat} (hd : 1 ≤ d) {S : St} (hSh : ShC S) {x1 : Int32} {m : Mm} {r0 : Int32} {mf : Mm} (h : f_Rows_wasWalked N S x1 m = some (r0, mf)) : Ev xs L al d 126 [.ref 30, .int x1] (m, S) (some (.int r0)) (mf, S) := by
  obtain ⟨d, rfl⟩ : ∃ e, d = e + 1 := ⟨d - 1, by omega⟩
  refine ev_of (by decide) (Nat.le_of_ble_eq_true rfl) ?_
  rw [f_Rows_wasWalked] at h
  show RN xs L al (Ev xs L al d) 126 0 [(0, .ref 30), (1, .int x1)] [] (m, S) (some (.int r0)) (mf, S)
  refine rsn 1 (t := (1, [(0, .ref 30), (1, .int x1)], [.int x1])) rfl ?_
  by_cases c1 : x1 < 0
  · rw [if_pos c1] at h
    refine rjt (a := (13, [(0, .ref 30), (1, .int x1)], [])) (b := (4, [(0, .ref 30), (1, .int x1)], [])) rfl rfl c1 ?_
    refine rsn 1 (t := (14, [(0, .ref 30), (1, .int x1)], [.int 0])) rfl ?_
    obtain ⟨h, h2⟩ := Prod.mk.inj (Option.some.inj h)
    subst h
    subst h2
    exact rret rfl ⟨rfl, rfl, _, _, rfl, rfl, rfl, rfl⟩
  · rw [if_neg c1] at h
    refine rjf (a := (13, [(0, .ref 30), (1, .int x1)], [])) (b := (4, [(0, .ref 30), (1, .int x1)], [])) rfl rfl c1 ?_
    refine rsn 2 (t := (6, [(0, .ref 30), (1, .int x1)], [.ref 30, .int x1])) rfl ?_
    obtain ⟨t2, g2, h⟩ := b1_some h
    refine rgR rfl rfl rfl (hSh.1.k 30 rfl _) g2 ?_
    refine rxL rfl (hSh.kQ g2 _) (by decide) rfl ?_
    show RN xs L al (Ev xs L al d) 126 10 [(0, .ref 30), (1, .int x1)] [.int ((Int32.ofNat ((S.2.2.1 t2)))), .int x1] (m, S) (some (.int r0)) (mf, S)
    by_cases c3 : x1 < ((Int32.ofNat ((S.2.2.1 t2))))
    · rw [if_pos c3] at h
      refine rjt (a := (15, [(0, .ref 30), (1, .int x1)], [])) (b := (13, [(0, .ref 30), (1, .int x1)], [])) rfl rfl c3 ?_
      refine rsn 1 (t := (16, [(0, .ref 30), (1, .int x1)], [.ref 30])) rfl ?_
      obtain ⟨t4, g4, h⟩ := b1_some h
      refine rgR rfl rfl rfl (hSh.1.k 30 rfl _) g4 ?_
      refine rsn 1 (t := (20, [(0, .ref 30), (1, .int x1)], [.int x1, .ref t4])) rfl ?_
      obtain ⟨c5, h⟩ := ck_some h
      refine pxI rfl (hSh.kQ g4 _) rfl c5 ?_
      show RN xs L al (Ev xs L al d) 126 21 [(0, .ref 30), (1, .int x1)] [.int ((mX m t4 x1.toNatClampNeg))] (m, S) (some (.int r0)) (mf, S)
      refine rsn 1 (t := (22, [(0, .ref 30), (1, .int x1)], [.ref 30, .int ((mX m t4 x1.toNatClampNeg))])) rfl ?_
      refine pgI rfl rfl rfl (hSh.1.k 30 rfl _) ?_
      show RN xs L al (Ev xs L al d) 126 25 [(0, .ref 30), (1, .int x1)] [.int ((mI m 30 3)), .int ((mX m t4 x1.toNatClampNeg))] (m, S) (some (.int r0)) (mf, S)
      have jp33 : ∀ (s6 : Int32), (b1 (S.1 30 2) fun t7 => ck (ix x1 (S.2.2.1 t7)) (ck (s6 = 0 ∨ s6 = 1) (some (s6, (vX m t7 x1.toNatClampNeg ((mI m 30 3))))))) = some (r0, mf) → RN xs L al (Ev xs L al d) 126 33 [(0, .ref 30), (1, .int x1)] [.int s6] (m, S) (some (.int r0)) (mf, S) := by
        intro s6 h
        try dsimp only at h
        refine rsn 2 (t := (35, [(2, .int s6), (0, .ref 30), (1, .int x1)], [.ref 30])) rfl ?_
        obtain ⟨t7, g7, h⟩ := b1_some h
        refine rgR rfl rfl rfl (hSh.1.k 30 rfl _) g7 ?_
        refine rsn 2 (t := (40, [(2, .int s6), (0, .ref 30), (1, .int x1)], [.ref 30, .int x1, .ref t7])) rfl ?_
        refine pgI rfl rfl rfl (hSh.1.k 30 rfl _) ?_
        show RN xs L al (Ev xs L al d) 126 43 [(2, .int s6), (0, .ref 30), (1, .int x1)] [.int ((mI m 30 3)), .int x1, .ref t7] (m, S) (some (.int r0)) (mf, S)
        obtain ⟨c8, h⟩ := ck_some h
        refine psI rfl (hSh.kQ g7 _) rfl c8 ?_
        refine rsn 1 (t := (45, [(2, .int s6), (0, .ref 30), (1, .int x1)], [.int s6])) rfl ?_
        obtain ⟨c9, h⟩ := ck_some h
        obtain ⟨h, h2⟩ := Prod.mk.inj (Option.some.inj h)
        subst h
        subst h2
        exact rret rfl ⟨rfl, rfl, _, _, rfl, rfl, rfl, nz_of c9⟩
      rw [jn] at h
      try dsimp only at h
      by_cases c10 : ((mX m t4 x1.toNatClampNeg)) = ((mI m 30 3))
      · rw [if_pos c10] at h
        refine rjf (a := (32, [(0, .ref 30), (1, .int x1)], [])) (b := (28, [(0, .ref 30), (1, .int x1)], [])) rfl rfl (fun q => q c10) ?_
        refine rsn 2 (t := (33, [(0, .ref 30), (1, .int x1)], [.int 1])) rfl ?_
        exact rsub [(0, .ref 30), (1, .int x1)] ⟨rfl, ⟨rfl, trivial⟩⟩ ⟨rfl, ⟨rfl, trivial⟩⟩ (jp33 1 h)
      · rw [if_neg c10] at h
        refine rjt (a := (32, [(0, .ref 30), (1, .int x1)], [])) (b := (28, [(0, .ref 30), (1, .int x1)], [])) rfl rfl c10 ?_
        refine rsn 1 (t := (33, [(0, .ref 30), (1, .int x1)], [.int 0])) rfl ?_
        exact rsub [(0, .ref 30), (1, .int x1)] ⟨rfl, ⟨rfl, trivial⟩⟩ ⟨rfl, ⟨rfl, trivial⟩⟩ (jp33 0 h)
    · rw [if_neg c3] at h
      refine rjf (a := (15, [(0, .ref 30), (1, .int x1)], [])) (b := (13, [(0, .ref 30), (1, .int x1)], [])) rfl rfl c3 ?_
      refine rsn 1 (t := (14, [(0, .ref 30), (1, .int x1)], [.int 0])) rfl ?_
      obtain ⟨h, h2⟩ := Prod.mk.inj (Option.some.inj h)
      subst h
      subst h2
      exact rret rfl ⟨rfl, rfl, _, _, rfl, rfl, rfl, rfl⟩
def f_Ways_claim (N : Nat) (S : St) (x1 : Int64) (x3 : Int32) (x4 : Int32) (m : Mm) : Option (Int32) := (if ((mI m 97 2)) = 1 then b1 (f_State_thingsOf N x1 x4) fun r1 => some ((-r1)) else (if ((mI m 97 2)) = 2 then b1 (f_Will_valueOf N S 10 x4 x1 x4 m) fun r2 => some ((-r2)) else b1 (f_Will_worth N S 10 x4 x3 m) fun r3 => some r3))
set_option maxRecDepth 20000 in
set_option maxHeartbeats 4000000 in
theorem e_Ways_claim {xs : Nat → Int32} {L : Nat} {al : Bool} (N : Nat) {d : Nat} (hd : 3 ≤ d) {S : St} (hSh : ShC S) {x1 : Int64} {x3 : Int32} {x4 : Int32} {m : Mm} {r0 : Int32} (h : f_Ways_claim N S x1 x3 x4 m = some r0) : Ev xs L al d 132 [.ref 97, .long x1, .int x3, .int x4] (m, S) (some (.int r0)) (m, S) := by
  obtain ⟨d, rfl⟩ : ∃ e, d = e + 1 := ⟨d - 1, by omega⟩
  refine ev_of (by decide) (Nat.le_of_ble_eq_true rfl) ?_
  rw [f_Ways_claim] at h
  show RN xs L al (Ev xs L al d) 132 0 [(0, .ref 97), (1, .long x1), (3, .int x3), (4, .int x4)] [] (m, S) (some (.int r0)) (m, S)
  refine rsn 1 (t := (1, [(0, .ref 97), (1, .long x1), (3, .int x3), (4, .int x4)], [.ref 97])) rfl ?_
  refine pgI rfl rfl rfl (hSh.1.k 97 rfl _) ?_
  show RN xs L al (Ev xs L al d) 132 4 [(0, .ref 97), (1, .long x1), (3, .int x3), (4, .int x4)] [.int ((mI m 97 2))] (m, S) (some (.int r0)) (m, S)
  by_cases c4 : ((mI m 97 2)) = 1
  · rw [if_pos c4] at h
    refine rs (t := (32, [(0, .ref 97), (1, .long x1), (3, .int x3), (4, .int x4)], [])) rfl (by rw [c4]; rfl) ?_
    refine rsn 2 (t := (35, [(0, .ref 97), (1, .long x1), (3, .int x3), (4, .int x4)], [.int x4, .long x1])) rfl ?_
    obtain ⟨r1, g1, h⟩ := b1_some h
    refine rcS 69 [.long x1, .int x4] rfl rfl rfl (Nat.le_of_ble_eq_true rfl) rfl (e_State_thingsOf N (by omega) g1) ?_
    show RN xs L al (Ev xs L al d) 132 38 [(0, .ref 97), (1, .long x1), (3, .int x3), (4, .int x4)] [.int r1] (m, S) (some (.int r0)) (m, S)
    refine rsn 1 (t := (39, [(0, .ref 97), (1, .long x1), (3, .int x3), (4, .int x4)], [.int ((-r1))])) rfl ?_
    have h := Option.some.inj h
    subst h
    exact rret rfl ⟨rfl, rfl, _, _, rfl, rfl, rfl, rfl⟩
  rw [if_neg c4] at h
  by_cases c5 : ((mI m 97 2)) = 2
  · rw [if_pos c5] at h
    refine rs (t := (40, [(0, .ref 97), (1, .long x1), (3, .int x3), (4, .int x4)], [])) rfl (by rw [c5]; rfl) ?_
    refine rsn 1 (t := (41, [(0, .ref 97), (1, .long x1), (3, .int x3), (4, .int x4)], [.ref 97])) rfl ?_
    refine rgR rfl rfl rfl (hSh.1.k 97 rfl _) (hSh.1.r 102 rfl _) ?_
    refine rsn 3 (t := (49, [(0, .ref 97), (1, .long x1), (3, .int x3), (4, .int x4)], [.int x4, .long x1, .int x4, .ref 10])) rfl ?_
    obtain ⟨r2, g2, h⟩ := b1_some h
    refine rcV 58 10 [.int x4, .long x1, .int x4] rfl rfl rfl (hSh.1.k 10 rfl _) (Nat.le_of_ble_eq_true rfl) rfl (e_Will_valueOf N (by omega) hSh (by decide) g2) ?_
    show RN xs L al (Ev xs L al d) 132 52 [(0, .ref 97), (1, .long x1), (3, .int x3), (4, .int x4)] [.int r2] (m, S) (some (.int r0)) (m, S)
    refine rsn 1 (t := (53, [(0, .ref 97), (1, .long x1), (3, .int x3), (4, .int x4)], [.int ((-r2))])) rfl ?_
    have h := Option.some.inj h
    subst h
    exact rret rfl ⟨rfl, rfl, _, _, rfl, rfl, rfl, rfl⟩
  rw [if_neg c5] at h
  refine rs (t := (54, [(0, .ref 97), (1, .long x1), (3, .int x3), (4, .int x4)], [])) rfl (lk_d (pc := 4) (ps := #[(1, 28), (2, 36)]) (dflt := 50) (by decide) (by rw [lv_osw c4 (by decide)]; rw [lv_osw c5 (by decide)]; rfl) (by decide)) ?_
  refine rsn 1 (t := (55, [(0, .ref 97), (1, .long x1), (3, .int x3), (4, .int x4)], [.ref 97])) rfl ?_
  refine rgR rfl rfl rfl (hSh.1.k 97 rfl _) (hSh.1.r 102 rfl _) ?_
  refine rsn 2 (t := (61, [(0, .ref 97), (1, .long x1), (3, .int x3), (4, .int x4)], [.int x3, .int x4, .ref 10])) rfl ?_
  obtain ⟨r3, g3, h⟩ := b1_some h
  refine rcV 56 10 [.int x4, .int x3] rfl rfl rfl (hSh.1.k 10 rfl _) (Nat.le_of_ble_eq_true rfl) rfl (e_Will_worth N (by omega) hSh (by decide) g3) ?_
  show RN xs L al (Ev xs L al d) 132 64 [(0, .ref 97), (1, .long x1), (3, .int x3), (4, .int x4)] [.int r3] (m, S) (some (.int r0)) (m, S)
  have h := Option.some.inj h
  subst h
  exact rret rfl ⟨rfl, rfl, _, _, rfl, rfl, rfl, rfl⟩
def f_Ways_gift_L35 (N : Nat) (S : St) (x1 : Int64) (x3 : Int32) (m : Mm) (k35 : Int32 → Int32 → Option (Int32)) : Nat → Int32 → Int32 → Option (Int32)
  | 0, _, _ => none
  | n35 + 1, x4, x5 => (if ((mI m 10 0)) ≤ x5 then k35 x4 x5 else b1 (f_State_isThere N x1 x5) fun r2 => (if r2 = 0 then f_Ways_gift_L35 N S x1 x3 m k35 n35 x4 ((x5 + 1)) else (if x4 = ((-1)) then f_Ways_gift_L35 N S x1 x3 m k35 n35 x5 ((x5 + 1)) else b1 (f_Ways_claim N S x1 x3 x5 m) fun r5 => b1 (f_Ways_claim N S x1 x3 x4 m) fun r6 => (if r5 ≤ r6 then f_Ways_gift_L35 N S x1 x3 m k35 n35 x4 ((x5 + 1)) else f_Ways_gift_L35 N S x1 x3 m k35 n35 x5 ((x5 + 1))))))
def f_Ways_gift (N : Nat) (S : St) (x1 : Int64) (x3 : Int32) (m : Mm) : Option (Int32) := (jn (fun (_ : Unit) => f_Ways_gift_L35 N S x1 x3 m (fun (z8_4 : Int32) (z8_5 : Int32) => some z8_4) N ((-1)) 0) (fun j29 => if ((mI m 97 2)) = 3 then b1 (f_Will_mayGive N S 10 x1 3 ((mI m 10 2)) m) fun r18 => (if r18 = 0 then j29 () else some 3) else j29 ()))
set_option maxRecDepth 20000 in
set_option maxHeartbeats 4000000 in
theorem e_Ways_gift {xs : Nat → Int32} {L : Nat} {al : Bool} (N : Nat) {d : Nat} (hd : 5 ≤ d) {S : St} (hSh : ShC S) {x1 : Int64} {x3 : Int32} {m : Mm} {r0 : Int32} (h : f_Ways_gift N S x1 x3 m = some r0) : Ev xs L al d 131 [.ref 97, .long x1, .int x3] (m, S) (some (.int r0)) (m, S) := by
  obtain ⟨d, rfl⟩ : ∃ e, d = e + 1 := ⟨d - 1, by omega⟩
  refine ev_of (by decide) (Nat.le_of_ble_eq_true rfl) ?_
  rw [f_Ways_gift] at h
  show RN xs L al (Ev xs L al d) 131 0 [(0, .ref 97), (1, .long x1), (3, .int x3)] [] (m, S) (some (.int r0)) (m, S)
  refine rsn 1 (t := (1, [(0, .ref 97), (1, .long x1), (3, .int x3)], [.ref 97])) rfl ?_
  refine pgI rfl rfl rfl (hSh.1.k 97 rfl _) ?_
  show RN xs L al (Ev xs L al d) 131 4 [(0, .ref 97), (1, .long x1), (3, .int x3)] [.int ((mI m 97 2))] (m, S) (some (.int r0)) (m, S)
  refine rsn 1 (t := (5, [(0, .ref 97), (1, .long x1), (3, .int x3)], [.int 3, .int ((mI m 97 2))])) rfl ?_
  have jp29 : ∀ (_ : Unit), (f_Ways_gift_L35 N S x1 x3 m (fun (z8_4 : Int32) (z8_5 : Int32) => some z8_4) N ((-1)) 0) = some r0 → RN xs L al (Ev xs L al d) 131 29 [(0, .ref 97), (1, .long x1), (3, .int x3)] [] (m, S) (some (.int r0)) (m, S) := by
    intro _ h
    try dsimp only at h
    refine rsn 4 (t := (35, [(5, .int 0), (4, .int ((-1))), (0, .ref 97), (1, .long x1), (3, .int x3)], [])) rfl ?_
    have ex35 : ∀ (z8_4 : Int32) (z8_5 : Int32), (some z8_4) = some r0 → RN xs L al (Ev xs L al d) 131 91 [(4, .int z8_4)] [] (m, S) (some (.int r0)) (m, S) := by
      intro z8_4 z8_5 h
      try dsimp only at h
      refine rsn 1 (t := (93, [(4, .int z8_4)], [.int z8_4])) rfl ?_
      have h := Option.some.inj h
      subst h
      exact rret rfl ⟨rfl, rfl, _, _, rfl, rfl, rfl, rfl⟩
    have lp35 : ∀ (n : Nat) (y9_4 : Int32) (y9_5 : Int32), (f_Ways_gift_L35 N S x1 x3 m (fun (z8_4 : Int32) (z8_5 : Int32) => some z8_4) n y9_4 y9_5) = some r0 → RN xs L al (Ev xs L al d) 131 35 [(0, .ref 97), (1, .long x1), (3, .int x3), (4, .int y9_4), (5, .int y9_5)] [] (m, S) (some (.int r0)) (m, S) := by
      intro n
      induction n with
      | zero => intro y9_4 y9_5 h; exact absurd h (by simp [f_Ways_gift_L35])
      | succ n35 ih35 =>
        intro y9_4 y9_5 h
        try dsimp only at h
        rw [f_Ways_gift_L35] at h
        try dsimp only at h
        refine rsn 2 (t := (38, [(0, .ref 97), (1, .long x1), (3, .int x3), (4, .int y9_4), (5, .int y9_5)], [.ref 97, .int y9_5])) rfl ?_
        refine rgR rfl rfl rfl (hSh.1.k 97 rfl _) (hSh.1.r 102 rfl _) ?_
        refine pgI rfl rfl rfl (hSh.1.k 10 rfl _) ?_
        show RN xs L al (Ev xs L al d) 131 44 [(0, .ref 97), (1, .long x1), (3, .int x3), (4, .int y9_4), (5, .int y9_5)] [.int ((mI m 10 0)), .int y9_5] (m, S) (some (.int r0)) (m, S)
        by_cases c10 : ((mI m 10 0)) ≤ y9_5
        · rw [if_pos c10] at h
          refine rjt (a := (91, [(0, .ref 97), (1, .long x1), (3, .int x3), (4, .int y9_4), (5, .int y9_5)], [])) (b := (47, [(0, .ref 97), (1, .long x1), (3, .int x3), (4, .int y9_4), (5, .int y9_5)], [])) rfl rfl c10 ?_
          exact rsub [(4, .int y9_4)] ⟨rfl, trivial⟩ ⟨rfl, trivial⟩ (ex35 y9_4 y9_5 h)
        · rw [if_neg c10] at h
          refine rjf (a := (91, [(0, .ref 97), (1, .long x1), (3, .int x3), (4, .int y9_4), (5, .int y9_5)], [])) (b := (47, [(0, .ref 97), (1, .long x1), (3, .int x3), (4, .int y9_4), (5, .int y9_5)], [])) rfl rfl c10 ?_
          refine rsn 2 (t := (50, [(0, .ref 97), (1, .long x1), (3, .int x3), (4, .int y9_4), (5, .int y9_5)], [.int y9_5, .long x1])) rfl ?_
          obtain ⟨r11, g11, h⟩ := b1_some h
          refine rcS 54 [.long x1, .int y9_5] rfl rfl rfl (Nat.le_of_ble_eq_true rfl) rfl (e_State_isThere N (by omega) g11) ?_
          show RN xs L al (Ev xs L al d) 131 53 [(0, .ref 97), (1, .long x1), (3, .int x3), (4, .int y9_4), (5, .int y9_5)] [.int r11] (m, S) (some (.int r0)) (m, S)
          by_cases c12 : r11 = 0
          · rw [if_pos c12] at h
            refine rjt (a := (85, [(0, .ref 97), (1, .long x1), (3, .int x3), (4, .int y9_4), (5, .int y9_5)], [])) (b := (56, [(0, .ref 97), (1, .long x1), (3, .int x3), (4, .int y9_4), (5, .int y9_5)], [])) rfl rfl c12 ?_
            refine rsn 2 (t := (35, [(5, .int ((y9_5 + 1))), (0, .ref 97), (1, .long x1), (3, .int x3), (4, .int y9_4)], [])) rfl ?_
            exact rsub [(0, .ref 97), (1, .long x1), (3, .int x3), (4, .int y9_4), (5, .int ((y9_5 + 1)))] ⟨rfl, ⟨rfl, ⟨rfl, ⟨rfl, ⟨rfl, trivial⟩⟩⟩⟩⟩ ⟨rfl, ⟨rfl, ⟨rfl, ⟨rfl, ⟨rfl, trivial⟩⟩⟩⟩⟩ (ih35 y9_4 ((y9_5 + 1)) h)
          · rw [if_neg c12] at h
            refine rjf (a := (85, [(0, .ref 97), (1, .long x1), (3, .int x3), (4, .int y9_4), (5, .int y9_5)], [])) (b := (56, [(0, .ref 97), (1, .long x1), (3, .int x3), (4, .int y9_4), (5, .int y9_5)], [])) rfl rfl c12 ?_
            refine rsn 2 (t := (59, [(0, .ref 97), (1, .long x1), (3, .int x3), (4, .int y9_4), (5, .int y9_5)], [.int ((-1)), .int y9_4])) rfl ?_
            by_cases c13 : y9_4 = ((-1))
            · rw [if_pos c13] at h
              refine rjt (a := (81, [(0, .ref 97), (1, .long x1), (3, .int x3), (4, .int y9_4), (5, .int y9_5)], [])) (b := (62, [(0, .ref 97), (1, .long x1), (3, .int x3), (4, .int y9_4), (5, .int y9_5)], [])) rfl rfl c13 ?_
              refine rsn 4 (t := (35, [(5, .int ((y9_5 + 1))), (4, .int y9_5), (0, .ref 97), (1, .long x1), (3, .int x3)], [])) rfl ?_
              exact rsub [(0, .ref 97), (1, .long x1), (3, .int x3), (4, .int y9_5), (5, .int ((y9_5 + 1)))] ⟨rfl, ⟨rfl, ⟨rfl, ⟨rfl, ⟨rfl, trivial⟩⟩⟩⟩⟩ ⟨rfl, ⟨rfl, ⟨rfl, ⟨rfl, ⟨rfl, trivial⟩⟩⟩⟩⟩ (ih35 y9_5 ((y9_5 + 1)) h)
            · rw [if_neg c13] at h
              refine rjf (a := (81, [(0, .ref 97), (1, .long x1), (3, .int x3), (4, .int y9_4), (5, .int y9_5)], [])) (b := (62, [(0, .ref 97), (1, .long x1), (3, .int x3), (4, .int y9_4), (5, .int y9_5)], [])) rfl rfl c13 ?_
              refine rsn 4 (t := (67, [(0, .ref 97), (1, .long x1), (3, .int x3), (4, .int y9_4), (5, .int y9_5)], [.int y9_5, .int x3, .long x1, .ref 97])) rfl ?_
              obtain ⟨r14, g14, h⟩ := b1_some h
              refine rcV 132 97 [.long x1, .int x3, .int y9_5] rfl rfl rfl (hSh.1.k 97 rfl _) (Nat.le_of_ble_eq_true rfl) rfl (e_Ways_claim N (by omega) hSh g14) ?_
              show RN xs L al (Ev xs L al d) 131 70 [(0, .ref 97), (1, .long x1), (3, .int x3), (4, .int y9_4), (5, .int y9_5)] [.int r14] (m, S) (some (.int r0)) (m, S)
              refine rsn 4 (t := (75, [(0, .ref 97), (1, .long x1), (3, .int x3), (4, .int y9_4), (5, .int y9_5)], [.int y9_4, .int x3, .long x1, .ref 97, .int r14])) rfl ?_
              obtain ⟨r15, g15, h⟩ := b1_some h
              refine rcV 132 97 [.long x1, .int x3, .int y9_4] rfl rfl rfl (hSh.1.k 97 rfl _) (Nat.le_of_ble_eq_true rfl) rfl (e_Ways_claim N (by omega) hSh g15) ?_
              show RN xs L al (Ev xs L al d) 131 78 [(0, .ref 97), (1, .long x1), (3, .int x3), (4, .int y9_4), (5, .int y9_5)] [.int r15, .int r14] (m, S) (some (.int r0)) (m, S)
              by_cases c16 : r14 ≤ r15
              · rw [if_pos c16] at h
                refine rjt (a := (85, [(0, .ref 97), (1, .long x1), (3, .int x3), (4, .int y9_4), (5, .int y9_5)], [])) (b := (81, [(0, .ref 97), (1, .long x1), (3, .int x3), (4, .int y9_4), (5, .int y9_5)], [])) rfl rfl c16 ?_
                refine rsn 2 (t := (35, [(5, .int ((y9_5 + 1))), (0, .ref 97), (1, .long x1), (3, .int x3), (4, .int y9_4)], [])) rfl ?_
                exact rsub [(0, .ref 97), (1, .long x1), (3, .int x3), (4, .int y9_4), (5, .int ((y9_5 + 1)))] ⟨rfl, ⟨rfl, ⟨rfl, ⟨rfl, ⟨rfl, trivial⟩⟩⟩⟩⟩ ⟨rfl, ⟨rfl, ⟨rfl, ⟨rfl, ⟨rfl, trivial⟩⟩⟩⟩⟩ (ih35 y9_4 ((y9_5 + 1)) h)
              · rw [if_neg c16] at h
                refine rjf (a := (85, [(0, .ref 97), (1, .long x1), (3, .int x3), (4, .int y9_4), (5, .int y9_5)], [])) (b := (81, [(0, .ref 97), (1, .long x1), (3, .int x3), (4, .int y9_4), (5, .int y9_5)], [])) rfl rfl c16 ?_
                refine rsn 4 (t := (35, [(5, .int ((y9_5 + 1))), (4, .int y9_5), (0, .ref 97), (1, .long x1), (3, .int x3)], [])) rfl ?_
                exact rsub [(0, .ref 97), (1, .long x1), (3, .int x3), (4, .int y9_5), (5, .int ((y9_5 + 1)))] ⟨rfl, ⟨rfl, ⟨rfl, ⟨rfl, ⟨rfl, trivial⟩⟩⟩⟩⟩ ⟨rfl, ⟨rfl, ⟨rfl, ⟨rfl, ⟨rfl, trivial⟩⟩⟩⟩⟩ (ih35 y9_5 ((y9_5 + 1)) h)
    exact rsub [(0, .ref 97), (1, .long x1), (3, .int x3), (4, .int ((-1))), (5, .int 0)] ⟨rfl, ⟨rfl, ⟨rfl, ⟨rfl, ⟨rfl, trivial⟩⟩⟩⟩⟩ ⟨rfl, ⟨rfl, ⟨rfl, ⟨rfl, ⟨rfl, trivial⟩⟩⟩⟩⟩ (lp35 N ((-1)) 0 h)
  rw [jn] at h
  try dsimp only at h
  by_cases c17 : ((mI m 97 2)) = 3
  · rw [if_pos c17] at h
    refine rjf (a := (29, [(0, .ref 97), (1, .long x1), (3, .int x3)], [])) (b := (8, [(0, .ref 97), (1, .long x1), (3, .int x3)], [])) rfl rfl (fun q => q c17) ?_
    refine rsn 1 (t := (9, [(0, .ref 97), (1, .long x1), (3, .int x3)], [.ref 97])) rfl ?_
    refine rgR rfl rfl rfl (hSh.1.k 97 rfl _) (hSh.1.r 102 rfl _) ?_
    refine rsn 3 (t := (15, [(0, .ref 97), (1, .long x1), (3, .int x3)], [.ref 97, .int 3, .long x1, .ref 10])) rfl ?_
    refine rgR rfl rfl rfl (hSh.1.k 97 rfl _) (hSh.1.r 102 rfl _) ?_
    refine pgI rfl rfl rfl (hSh.1.k 10 rfl _) ?_
    show RN xs L al (Ev xs L al d) 131 21 [(0, .ref 97), (1, .long x1), (3, .int x3)] [.int ((mI m 10 2)), .int 3, .long x1, .ref 10] (m, S) (some (.int r0)) (m, S)
    obtain ⟨r18, g18, h⟩ := b1_some h
    refine rcV 67 10 [.long x1, .int 3, .int ((mI m 10 2))] rfl rfl rfl (hSh.1.k 10 rfl _) (Nat.le_of_ble_eq_true rfl) rfl (e_Will_mayGive N (by omega) hSh (by decide) g18) ?_
    show RN xs L al (Ev xs L al d) 131 24 [(0, .ref 97), (1, .long x1), (3, .int x3)] [.int r18] (m, S) (some (.int r0)) (m, S)
    by_cases c19 : r18 = 0
    · rw [if_pos c19] at h
      refine rjt (a := (29, [(0, .ref 97), (1, .long x1), (3, .int x3)], [])) (b := (27, [(0, .ref 97), (1, .long x1), (3, .int x3)], [])) rfl rfl c19 ?_
      exact rsub [(0, .ref 97), (1, .long x1), (3, .int x3)] ⟨rfl, ⟨rfl, ⟨rfl, trivial⟩⟩⟩ ⟨rfl, ⟨rfl, ⟨rfl, trivial⟩⟩⟩ (jp29 () h)
    · rw [if_neg c19] at h
      refine rjf (a := (29, [(0, .ref 97), (1, .long x1), (3, .int x3)], [])) (b := (27, [(0, .ref 97), (1, .long x1), (3, .int x3)], [])) rfl rfl c19 ?_
      refine rsn 1 (t := (28, [(0, .ref 97), (1, .long x1), (3, .int x3)], [.int 3])) rfl ?_
      have h := Option.some.inj h
      subst h
      exact rret rfl ⟨rfl, rfl, _, _, rfl, rfl, rfl, rfl⟩
  · rw [if_neg c17] at h
    refine rjt (a := (29, [(0, .ref 97), (1, .long x1), (3, .int x3)], [])) (b := (8, [(0, .ref 97), (1, .long x1), (3, .int x3)], [])) rfl rfl c17 ?_
    exact rsub [(0, .ref 97), (1, .long x1), (3, .int x3)] ⟨rfl, ⟨rfl, ⟨rfl, trivial⟩⟩⟩ ⟨rfl, ⟨rfl, ⟨rfl, trivial⟩⟩⟩ (jp29 () h)
