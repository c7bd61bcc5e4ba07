/-! The reference's methods as functions (printed by wip/whole/gen_fun.py). -/
def f_Mo_judge_L42 (N : Nat) (x1 : Int32) (x2 : Int32) (m : Mm) (k42 : Int64 → Int32 → Option (Int32 × Mm)) : Nat → Int64 → Int32 → Option (Int32 × Mm)
  | 0, _, _ => none
  | n42 + 1, x3, x5 => (if ((((mI m 0 18)) - ((mI m 0 24)))) ≤ x5 then k42 x3 x5 else b1 (f_Mo_altOf N ((((mI m 0 24)) + x5)) ((((isr x1 ((2 * x5)))) &&& 3)) 1 m) fun r8 => (jn (fun (_ : Unit) => (jn (fun (y9 : Int64) => (if r8 = 0 then b1 (f_Mo_altOf N ((((mI m 0 24)) + x5)) ((((isr x1 ((2 * x5)))) &&& 3)) 2 m) fun r11 => b1 (f_Mo_one N ((((isr x2 ((2 * x5)))) &&& 3)) r11) fun r12 => f_Mo_judge_L42 N x1 x2 m k42 n42 ((y9 + r12)) ((x5 + 1)) else f_Mo_judge_L42 N x1 x2 m k42 n42 y9 ((x5 + 1)))) (fun j149 => if r8 = 1 then b1 (f_Mo_altOf N ((((mI m 0 24)) + x5)) ((((isr x1 ((2 * x5)))) &&& 3)) 2 m) fun r14 => j149 ((x3 ||| ((lsl 1 ((36 + r14)))))) else j149 x3))) (fun j121 => if r8 = 0 then b1 (f_Mo_mayGive N x3 ((((isr x2 ((2 * x5)))) &&& 3)) ((mI m 0 21))) fun r17 => (if r17 = 0 then some (x5, m) else j121 ()) else (if ((((isr x2 ((2 * x5)))) &&& 3)) = 0 then j121 () else some (x5, m)))))
def f_Mo_judge (N : Nat) (x1 : Int32) (x2 : Int32) (m : Mm) : Option (Int32 × Mm) := (if ((mI m 0 15)) = 0 then some (9, m) else (if ((mI m 0 25)) = ((-1)) then b2 (f_Mo_isAltRow N x1 m) fun r3 m3 => (if r3 = 0 then some (9, m3) else b2 (f_Mo_isRow N x2 m3) fun r5 m5 => (if r5 = 0 then some (9, m5) else f_Mo_judge_L42 N x1 x2 m5 (fun (z19_3 : Int64) (z19_5 : Int32) => some ((-1), (vJ m5 0 46 z19_3))) N ((mJ m5 0 23)) 0)) else some (9, m)))
set_option maxRecDepth 20000 in
set_option maxHeartbeats 4000000 in
theorem e_Mo_judge {xs : Nat → Int32} {L : Nat} {al : Bool} (N : Nat) {d : Nat} (hd : 4 ≤ d) {S : St} (hSh : ShR S) {x1 : Int32} {x2 : Int32} {m : Mm} {r0 : Int32} {mf : Mm} (h : f_Mo_judge N x1 x2 m = some (r0, mf)) : Ev xs L al d 214 [.ref 0, .int x1, .int x2] (m, S) (some (.int r0)) (mf, S) := by
  obtain ⟨d, rfl⟩ : ∃ e, d = e + 1 := ⟨d - 1, by omega⟩
  refine ev_of (by decide) (Nat.le_of_ble_eq_true rfl) ?_
  rw [f_Mo_judge] at h
  show RN xs L al (Ev xs L al d) 214 0 [(0, .ref 0), (1, .int x1), (2, .int x2)] [] (m, S) (some (.int r0)) (mf, S)
  refine rsn 1 (t := (1, [(0, .ref 0), (1, .int x1), (2, .int x2)], [.ref 0])) rfl ?_
  refine pgI rfl rfl rfl (hSh.k 0 rfl _) ?_
  show RN xs L al (Ev xs L al d) 214 4 [(0, .ref 0), (1, .int x1), (2, .int x2)] [.int ((mI m 0 15))] (m, S) (some (.int r0)) (mf, S)
  by_cases c1 : ((mI m 0 15)) = 0
  · rw [if_pos c1] at h
    refine rjt (a := (31, [(0, .ref 0), (1, .int x1), (2, .int x2)], [])) (b := (7, [(0, .ref 0), (1, .int x1), (2, .int x2)], [])) rfl rfl c1 ?_
    refine rsn 1 (t := (33, [(0, .ref 0), (1, .int x1), (2, .int x2)], [.int 9])) rfl ?_
    cases h
    exact rret rfl ⟨rfl, rfl, _, _, rfl, rfl, rfl, rfl⟩
  · rw [if_neg c1] at h
    refine rjf (a := (31, [(0, .ref 0), (1, .int x1), (2, .int x2)], [])) (b := (7, [(0, .ref 0), (1, .int x1), (2, .int x2)], [])) rfl rfl c1 ?_
    refine rsn 1 (t := (8, [(0, .ref 0), (1, .int x1), (2, .int x2)], [.ref 0])) rfl ?_
    refine pgI rfl rfl rfl (hSh.k 0 rfl _) ?_
    show RN xs L al (Ev xs L al d) 214 11 [(0, .ref 0), (1, .int x1), (2, .int x2)] [.int ((mI m 0 25))] (m, S) (some (.int r0)) (mf, S)
    refine rsn 1 (t := (12, [(0, .ref 0), (1, .int x1), (2, .int x2)], [.int ((-1)), .int ((mI m 0 25))])) rfl ?_
    by_cases c2 : ((mI m 0 25)) = ((-1))
    · rw [if_pos c2] at h
      refine rjf (a := (31, [(0, .ref 0), (1, .int x1), (2, .int x2)], [])) (b := (15, [(0, .ref 0), (1, .int x1), (2, .int x2)], [])) rfl rfl (fun q => q c2) ?_
      refine rsn 2 (t := (17, [(0, .ref 0), (1, .int x1), (2, .int x2)], [.int x1, .ref 0])) rfl ?_
      obtain ⟨r3, m3, g3, h⟩ := b2_some h
      refine rcV 204 0 [.int x1] rfl rfl rfl (hSh.k 0 rfl _) (Nat.le_of_ble_eq_true rfl) rfl (e_Mo_isAltRow N (by omega) hSh g3) ?_
      show RN xs L al (Ev xs L al d) 214 20 [(0, .ref 0), (1, .int x1), (2, .int x2)] [.int r3] (m3, S) (some (.int r0)) (mf, S)
      by_cases c4 : r3 = 0
      · rw [if_pos c4] at h
        refine rjt (a := (31, [(0, .ref 0), (1, .int x1), (2, .int x2)], [])) (b := (23, [(0, .ref 0), (1, .int x1), (2, .int x2)], [])) rfl rfl c4 ?_
        refine rsn 1 (t := (33, [(0, .ref 0), (1, .int x1), (2, .int x2)], [.int 9])) rfl ?_
        cases h
        exact rret rfl ⟨rfl, rfl, _, _, rfl, rfl, rfl, rfl⟩
      · rw [if_neg c4] at h
        refine rjf (a := (31, [(0, .ref 0), (1, .int x1), (2, .int x2)], [])) (b := (23, [(0, .ref 0), (1, .int x1), (2, .int x2)], [])) rfl rfl c4 ?_
        refine rsn 2 (t := (25, [(0, .ref 0), (1, .int x1), (2, .int x2)], [.int x2, .ref 0])) rfl ?_
        obtain ⟨r5, m5, g5, h⟩ := b2_some h
        refine rcV 205 0 [.int x2] rfl rfl rfl (hSh.k 0 rfl _) (Nat.le_of_ble_eq_true rfl) rfl (e_Mo_isRow N (by omega) hSh g5) ?_
        show RN xs L al (Ev xs L al d) 214 28 [(0, .ref 0), (1, .int x1), (2, .int x2)] [.int r5] (m5, S) (some (.int r0)) (mf, S)
        by_cases c6 : r5 = 0
        · rw [if_pos c6] at h
          refine rjf (a := (34, [(0, .ref 0), (1, .int x1), (2, .int x2)], [])) (b := (31, [(0, .ref 0), (1, .int x1), (2, .int x2)], [])) rfl rfl (fun q => q c6) ?_
          refine rsn 1 (t := (33, [(0, .ref 0), (1, .int x1), (2, .int x2)], [.int 9])) rfl ?_
          cases h
          exact rret rfl ⟨rfl, rfl, _, _, rfl, rfl, rfl, rfl⟩
        · rw [if_neg c6] at h
          refine rjt (a := (34, [(0, .ref 0), (1, .int x1), (2, .int x2)], [])) (b := (31, [(0, .ref 0), (1, .int x1), (2, .int x2)], [])) rfl rfl c6 ?_
          refine rsn 1 (t := (35, [(0, .ref 0), (1, .int x1), (2, .int x2)], [.ref 0])) rfl ?_
          refine pgJ rfl rfl rfl (hSh.k 0 rfl _) ?_
          show RN xs L al (Ev xs L al d) 214 38 [(0, .ref 0), (1, .int x1), (2, .int x2)] [.long ((mJ m5 0 23))] (m5, S) (some (.int r0)) (mf, S)
          refine rsn 3 (t := (42, [(5, .int 0), (3, .long ((mJ m5 0 23))), (0, .ref 0), (1, .int x1), (2, .int x2)], [])) rfl ?_
          have ex42 : ∀ (z19_3 : Int64) (z19_5 : Int32), (some ((-1), (vJ m5 0 46 z19_3))) = some (r0, mf) → RN xs L al (Ev xs L al d) 214 182 [(0, .ref 0), (3, .long z19_3)] [] (m5, S) (some (.int r0)) (mf, S) := by
            intro z19_3 z19_5 h
            try dsimp only at h
            refine rsn 2 (t := (184, [(0, .ref 0), (3, .long z19_3)], [.long z19_3, .ref 0])) rfl ?_
            refine ppJ rfl rfl rfl rfl (hSh.k 0 rfl _) ?_
            refine rsn 1 (t := (188, [(0, .ref 0), (3, .long z19_3)], [.int ((-1))])) rfl ?_
            cases h
            exact rret rfl ⟨rfl, rfl, _, _, rfl, rfl, rfl, rfl⟩
          have lp42 : ∀ (n : Nat) (y20_3 : Int64) (y20_5 : Int32), (f_Mo_judge_L42 N x1 x2 m5 (fun (z19_3 : Int64) (z19_5 : Int32) => some ((-1), (vJ m5 0 46 z19_3))) n y20_3 y20_5) = some (r0, mf) → RN xs L al (Ev xs L al d) 214 42 [(0, .ref 0), (1, .int x1), (2, .int x2), (3, .long y20_3), (5, .int y20_5)] [] (m5, S) (some (.int r0)) (mf, S) := by
            intro n
            induction n with
            | zero => intro y20_3 y20_5 h; exact absurd h (by simp [f_Mo_judge_L42])
            | succ n42 ih42 =>
              intro y20_3 y20_5 h
              try dsimp only at h
              rw [f_Mo_judge_L42] at h
              try dsimp only at h
              refine rsn 2 (t := (45, [(0, .ref 0), (1, .int x1), (2, .int x2), (3, .long y20_3), (5, .int y20_5)], [.ref 0, .int y20_5])) rfl ?_
              refine pgI rfl rfl rfl (hSh.k 0 rfl _) ?_
              show RN xs L al (Ev xs L al d) 214 48 [(0, .ref 0), (1, .int x1), (2, .int x2), (3, .long y20_3), (5, .int y20_5)] [.int ((mI m5 0 18)), .int y20_5] (m5, S) (some (.int r0)) (mf, S)
              refine rsn 1 (t := (49, [(0, .ref 0), (1, .int x1), (2, .int x2), (3, .long y20_3), (5, .int y20_5)], [.ref 0, .int ((mI m5 0 18)), .int y20_5])) rfl ?_
              refine pgI rfl rfl rfl (hSh.k 0 rfl _) ?_
              show RN xs L al (Ev xs L al d) 214 52 [(0, .ref 0), (1, .int x1), (2, .int x2), (3, .long y20_3), (5, .int y20_5)] [.int ((mI m5 0 24)), .int ((mI m5 0 18)), .int y20_5] (m5, S) (some (.int r0)) (mf, S)
              refine rsn 1 (t := (53, [(0, .ref 0), (1, .int x1), (2, .int x2), (3, .long y20_3), (5, .int y20_5)], [.int ((((mI m5 0 18)) - ((mI m5 0 24)))), .int y20_5])) rfl ?_
              by_cases c21 : ((((mI m5 0 18)) - ((mI m5 0 24)))) ≤ y20_5
              · rw [if_pos c21] at h
                refine rjt (a := (182, [(0, .ref 0), (1, .int x1), (2, .int x2), (3, .long y20_3), (5, .int y20_5)], [])) (b := (56, [(0, .ref 0), (1, .int x1), (2, .int x2), (3, .long y20_3), (5, .int y20_5)], [])) rfl rfl c21 ?_
                exact rsub [(0, .ref 0), (3, .long y20_3)] ⟨rfl, ⟨rfl, trivial⟩⟩ ⟨rfl, ⟨rfl, trivial⟩⟩ (ex42 y20_3 y20_5 h)
              · rw [if_neg c21] at h
                refine rjf (a := (182, [(0, .ref 0), (1, .int x1), (2, .int x2), (3, .long y20_3), (5, .int y20_5)], [])) (b := (56, [(0, .ref 0), (1, .int x1), (2, .int x2), (3, .long y20_3), (5, .int y20_5)], [])) rfl rfl c21 ?_
                refine rsn 18 (t := (78, [(7, .int ((((isr x2 ((2 * y20_5)))) &&& 3))), (6, .int ((((isr x1 ((2 * y20_5)))) &&& 3))), (0, .ref 0), (1, .int x1), (2, .int x2), (3, .long y20_3), (5, .int y20_5)], [.ref 0, .ref 0])) rfl ?_
                refine pgI rfl rfl rfl (hSh.k 0 rfl _) ?_
                show RN xs L al (Ev xs L al d) 214 81 [(7, .int ((((isr x2 ((2 * y20_5)))) &&& 3))), (6, .int ((((isr x1 ((2 * y20_5)))) &&& 3))), (0, .ref 0), (1, .int x1), (2, .int x2), (3, .long y20_3), (5, .int y20_5)] [.int ((mI m5 0 24)), .ref 0] (m5, S) (some (.int r0)) (mf, S)
                refine rsn 4 (t := (87, [(7, .int ((((isr x2 ((2 * y20_5)))) &&& 3))), (6, .int ((((isr x1 ((2 * y20_5)))) &&& 3))), (0, .ref 0), (1, .int x1), (2, .int x2), (3, .long y20_3), (5, .int y20_5)], [.int 1, .int ((((isr x1 ((2 * y20_5)))) &&& 3)), .int ((((mI m5 0 24)) + y20_5)), .ref 0])) rfl ?_
                obtain ⟨r22, g22, h⟩ := b1_some h
                refine rcV 177 0 [.int ((((mI m5 0 24)) + y20_5)), .int ((((isr x1 ((2 * y20_5)))) &&& 3)), .int 1] rfl rfl rfl (hSh.k 0 rfl _) (Nat.le_of_ble_eq_true rfl) rfl (e_Mo_altOf N (by omega) hSh g22) ?_
                show RN xs L al (Ev xs L al d) 214 90 [(7, .int ((((isr x2 ((2 * y20_5)))) &&& 3))), (6, .int ((((isr x1 ((2 * y20_5)))) &&& 3))), (0, .ref 0), (1, .int x1), (2, .int x2), (3, .long y20_3), (5, .int y20_5)] [.int r22] (m5, S) (some (.int r0)) (mf, S)
                refine rsn 2 (t := (94, [(8, .int r22), (7, .int ((((isr x2 ((2 * y20_5)))) &&& 3))), (6, .int ((((isr x1 ((2 * y20_5)))) &&& 3))), (0, .ref 0), (1, .int x1), (2, .int x2), (3, .long y20_3), (5, .int y20_5)], [.int r22])) rfl ?_
                have jp121 : ∀ (_ : Unit), ((jn (fun (y23 : Int64) => (if r22 = 0 then b1 (f_Mo_altOf N ((((mI m5 0 24)) + y20_5)) ((((isr x1 ((2 * y20_5)))) &&& 3)) 2 m5) fun r25 => b1 (f_Mo_one N ((((isr x2 ((2 * y20_5)))) &&& 3)) r25) fun r26 => f_Mo_judge_L42 N x1 x2 m5 (fun (z19_3 : Int64) (z19_5 : Int32) => some ((-1), (vJ m5 0 46 z19_3))) n42 ((y23 + r26)) ((y20_5 + 1)) else f_Mo_judge_L42 N x1 x2 m5 (fun (z19_3 : Int64) (z19_5 : Int32) => some ((-1), (vJ m5 0 46 z19_3))) n42 y23 ((y20_5 + 1)))) (fun j149 => if r22 = 1 then b1 (f_Mo_altOf N ((((mI m5 0 24)) + y20_5)) ((((isr x1 ((2 * y20_5)))) &&& 3)) 2 m5) fun r28 => j149 ((y20_3 ||| ((lsl 1 ((36 + r28)))))) else j149 y20_3))) = some (r0, mf) → RN xs L al (Ev xs L al d) 214 121 [(0, .ref 0), (1, .int x1), (2, .int x2), (3, .long y20_3), (5, .int y20_5), (6, .int ((((isr x1 ((2 * y20_5)))) &&& 3))), (7, .int ((((isr x2 ((2 * y20_5)))) &&& 3))), (8, .int r22)] [] (m5, S) (some (.int r0)) (mf, S) := by
                  intro _ h
                  try dsimp only at h
                  refine rsn 2 (t := (124, [(0, .ref 0), (1, .int x1), (2, .int x2), (3, .long y20_3), (5, .int y20_5), (6, .int ((((isr x1 ((2 * y20_5)))) &&& 3))), (7, .int ((((isr x2 ((2 * y20_5)))) &&& 3))), (8, .int r22)], [.int 1, .int r22])) rfl ?_
                  have jp149 : ∀ (y23 : Int64), ((if r22 = 0 then b1 (f_Mo_altOf N ((((mI m5 0 24)) + y20_5)) ((((isr x1 ((2 * y20_5)))) &&& 3)) 2 m5) fun r25 => b1 (f_Mo_one N ((((isr x2 ((2 * y20_5)))) &&& 3)) r25) fun r26 => f_Mo_judge_L42 N x1 x2 m5 (fun (z19_3 : Int64) (z19_5 : Int32) => some ((-1), (vJ m5 0 46 z19_3))) n42 ((y23 + r26)) ((y20_5 + 1)) else f_Mo_judge_L42 N x1 x2 m5 (fun (z19_3 : Int64) (z19_5 : Int32) => some ((-1), (vJ m5 0 46 z19_3))) n42 y23 ((y20_5 + 1)))) = some (r0, mf) → RN xs L al (Ev xs L al d) 214 149 [(0, .ref 0), (1, .int x1), (2, .int x2), (3, .long y23), (5, .int y20_5), (6, .int ((((isr x1 ((2 * y20_5)))) &&& 3))), (7, .int ((((isr x2 ((2 * y20_5)))) &&& 3))), (8, .int r22)] [] (m5, S) (some (.int r0)) (mf, S) := by
                    intro y23 h
                    try dsimp only at h
                    refine rsn 1 (t := (151, [(0, .ref 0), (1, .int x1), (2, .int x2), (3, .long y23), (5, .int y20_5), (6, .int ((((isr x1 ((2 * y20_5)))) &&& 3))), (7, .int ((((isr x2 ((2 * y20_5)))) &&& 3))), (8, .int r22)], [.int r22])) rfl ?_
                    by_cases c24 : r22 = 0
                    · rw [if_pos c24] at h
                      refine rjf (a := (176, [(0, .ref 0), (1, .int x1), (2, .int x2), (3, .long y23), (5, .int y20_5), (6, .int ((((isr x1 ((2 * y20_5)))) &&& 3))), (7, .int ((((isr x2 ((2 * y20_5)))) &&& 3))), (8, .int r22)], [])) (b := (154, [(0, .ref 0), (1, .int x1), (2, .int x2), (3, .long y23), (5, .int y20_5), (6, .int ((((isr x1 ((2 * y20_5)))) &&& 3))), (7, .int ((((isr x2 ((2 * y20_5)))) &&& 3))), (8, .int r22)], [])) rfl rfl (fun q => q c24) ?_
                      refine rsn 4 (t := (159, [(0, .ref 0), (1, .int x1), (2, .int x2), (3, .long y23), (5, .int y20_5), (6, .int ((((isr x1 ((2 * y20_5)))) &&& 3))), (7, .int ((((isr x2 ((2 * y20_5)))) &&& 3))), (8, .int r22)], [.ref 0, .ref 0, .int ((((isr x2 ((2 * y20_5)))) &&& 3)), .long y23])) rfl ?_
                      refine pgI rfl rfl rfl (hSh.k 0 rfl _) ?_
                      show RN xs L al (Ev xs L al d) 214 162 [(0, .ref 0), (1, .int x1), (2, .int x2), (3, .long y23), (5, .int y20_5), (6, .int ((((isr x1 ((2 * y20_5)))) &&& 3))), (7, .int ((((isr x2 ((2 * y20_5)))) &&& 3))), (8, .int r22)] [.int ((mI m5 0 24)), .ref 0, .int ((((isr x2 ((2 * y20_5)))) &&& 3)), .long y23] (m5, S) (some (.int r0)) (mf, S)
                      refine rsn 4 (t := (168, [(0, .ref 0), (1, .int x1), (2, .int x2), (3, .long y23), (5, .int y20_5), (6, .int ((((isr x1 ((2 * y20_5)))) &&& 3))), (7, .int ((((isr x2 ((2 * y20_5)))) &&& 3))), (8, .int r22)], [.int 2, .int ((((isr x1 ((2 * y20_5)))) &&& 3)), .int ((((mI m5 0 24)) + y20_5)), .ref 0, .int ((((isr x2 ((2 * y20_5)))) &&& 3)), .long y23])) rfl ?_
                      obtain ⟨r25, g25, h⟩ := b1_some h
                      refine rcV 177 0 [.int ((((mI m5 0 24)) + y20_5)), .int ((((isr x1 ((2 * y20_5)))) &&& 3)), .int 2] rfl rfl rfl (hSh.k 0 rfl _) (Nat.le_of_ble_eq_true rfl) rfl (e_Mo_altOf N (by omega) hSh g25) ?_
                      show RN xs L al (Ev xs L al d) 214 171 [(0, .ref 0), (1, .int x1), (2, .int x2), (3, .long y23), (5, .int y20_5), (6, .int ((((isr x1 ((2 * y20_5)))) &&& 3))), (7, .int ((((isr x2 ((2 * y20_5)))) &&& 3))), (8, .int r22)] [.int r25, .int ((((isr x2 ((2 * y20_5)))) &&& 3)), .long y23] (m5, S) (some (.int r0)) (mf, S)
                      obtain ⟨r26, g26, h⟩ := b1_some h
                      refine rcS 182 [.int ((((isr x2 ((2 * y20_5)))) &&& 3)), .int r25] rfl rfl rfl (Nat.le_of_ble_eq_true rfl) rfl (e_Mo_one N (by omega) g26) ?_
                      show RN xs L al (Ev xs L al d) 214 174 [(0, .ref 0), (1, .int x1), (2, .int x2), (3, .long y23), (5, .int y20_5), (6, .int ((((isr x1 ((2 * y20_5)))) &&& 3))), (7, .int ((((isr x2 ((2 * y20_5)))) &&& 3))), (8, .int r22)] [.long r26, .long y23] (m5, S) (some (.int r0)) (mf, S)
                      refine rsn 4 (t := (42, [(5, .int ((y20_5 + 1))), (3, .long ((y23 + r26))), (0, .ref 0), (1, .int x1), (2, .int x2), (6, .int ((((isr x1 ((2 * y20_5)))) &&& 3))), (7, .int ((((isr x2 ((2 * y20_5)))) &&& 3))), (8, .int r22)], [])) rfl ?_
                      exact rsub [(0, .ref 0), (1, .int x1), (2, .int x2), (3, .long ((y23 + r26))), (5, .int ((y20_5 + 1)))] ⟨rfl, ⟨rfl, ⟨rfl, ⟨rfl, ⟨rfl, trivial⟩⟩⟩⟩⟩ ⟨rfl, ⟨rfl, ⟨rfl, ⟨rfl, ⟨rfl, trivial⟩⟩⟩⟩⟩ (ih42 ((y23 + r26)) ((y20_5 + 1)) h)
                    · rw [if_neg c24] at h
                      refine rjt (a := (176, [(0, .ref 0), (1, .int x1), (2, .int x2), (3, .long y23), (5, .int y20_5), (6, .int ((((isr x1 ((2 * y20_5)))) &&& 3))), (7, .int ((((isr x2 ((2 * y20_5)))) &&& 3))), (8, .int r22)], [])) (b := (154, [(0, .ref 0), (1, .int x1), (2, .int x2), (3, .long y23), (5, .int y20_5), (6, .int ((((isr x1 ((2 * y20_5)))) &&& 3))), (7, .int ((((isr x2 ((2 * y20_5)))) &&& 3))), (8, .int r22)], [])) rfl rfl c24 ?_
                      refine rsn 2 (t := (42, [(5, .int ((y20_5 + 1))), (0, .ref 0), (1, .int x1), (2, .int x2), (3, .long y23), (6, .int ((((isr x1 ((2 * y20_5)))) &&& 3))), (7, .int ((((isr x2 ((2 * y20_5)))) &&& 3))), (8, .int r22)], [])) rfl ?_
                      exact rsub [(0, .ref 0), (1, .int x1), (2, .int x2), (3, .long y23), (5, .int ((y20_5 + 1)))] ⟨rfl, ⟨rfl, ⟨rfl, ⟨rfl, ⟨rfl, trivial⟩⟩⟩⟩⟩ ⟨rfl, ⟨rfl, ⟨rfl, ⟨rfl, ⟨rfl, trivial⟩⟩⟩⟩⟩ (ih42 y23 ((y20_5 + 1)) h)
                  rw [jn] at h
                  try dsimp only at h
                  by_cases c27 : r22 = 1
                  · rw [if_pos c27] at h
                    refine rjf (a := (149, [(0, .ref 0), (1, .int x1), (2, .int x2), (3, .long y20_3), (5, .int y20_5), (6, .int ((((isr x1 ((2 * y20_5)))) &&& 3))), (7, .int ((((isr x2 ((2 * y20_5)))) &&& 3))), (8, .int r22)], [])) (b := (127, [(0, .ref 0), (1, .int x1), (2, .int x2), (3, .long y20_3), (5, .int y20_5), (6, .int ((((isr x1 ((2 * y20_5)))) &&& 3))), (7, .int ((((isr x2 ((2 * y20_5)))) &&& 3))), (8, .int r22)], [])) rfl rfl (fun q => q c27) ?_
                    refine rsn 5 (t := (133, [(0, .ref 0), (1, .int x1), (2, .int x2), (3, .long y20_3), (5, .int y20_5), (6, .int ((((isr x1 ((2 * y20_5)))) &&& 3))), (7, .int ((((isr x2 ((2 * y20_5)))) &&& 3))), (8, .int r22)], [.ref 0, .ref 0, .int 36, .long 1, .long y20_3])) rfl ?_
                    refine pgI rfl rfl rfl (hSh.k 0 rfl _) ?_
                    show RN xs L al (Ev xs L al d) 214 136 [(0, .ref 0), (1, .int x1), (2, .int x2), (3, .long y20_3), (5, .int y20_5), (6, .int ((((isr x1 ((2 * y20_5)))) &&& 3))), (7, .int ((((isr x2 ((2 * y20_5)))) &&& 3))), (8, .int r22)] [.int ((mI m5 0 24)), .ref 0, .int 36, .long 1, .long y20_3] (m5, S) (some (.int r0)) (mf, S)
                    refine rsn 4 (t := (142, [(0, .ref 0), (1, .int x1), (2, .int x2), (3, .long y20_3), (5, .int y20_5), (6, .int ((((isr x1 ((2 * y20_5)))) &&& 3))), (7, .int ((((isr x2 ((2 * y20_5)))) &&& 3))), (8, .int r22)], [.int 2, .int ((((isr x1 ((2 * y20_5)))) &&& 3)), .int ((((mI m5 0 24)) + y20_5)), .ref 0, .int 36, .long 1, .long y20_3])) rfl ?_
                    obtain ⟨r28, g28, h⟩ := b1_some h
                    refine rcV 177 0 [.int ((((mI m5 0 24)) + y20_5)), .int ((((isr x1 ((2 * y20_5)))) &&& 3)), .int 2] rfl rfl rfl (hSh.k 0 rfl _) (Nat.le_of_ble_eq_true rfl) rfl (e_Mo_altOf N (by omega) hSh g28) ?_
                    show RN xs L al (Ev xs L al d) 214 145 [(0, .ref 0), (1, .int x1), (2, .int x2), (3, .long y20_3), (5, .int y20_5), (6, .int ((((isr x1 ((2 * y20_5)))) &&& 3))), (7, .int ((((isr x2 ((2 * y20_5)))) &&& 3))), (8, .int r22)] [.int r28, .int 36, .long 1, .long y20_3] (m5, S) (some (.int r0)) (mf, S)
                    refine rsn 1 (t := (146, [(0, .ref 0), (1, .int x1), (2, .int x2), (3, .long y20_3), (5, .int y20_5), (6, .int ((((isr x1 ((2 * y20_5)))) &&& 3))), (7, .int ((((isr x2 ((2 * y20_5)))) &&& 3))), (8, .int r22)], [.int ((36 + r28)), .long 1, .long y20_3])) rfl ?_
                    refine rsn 1 (t := (147, [(0, .ref 0), (1, .int x1), (2, .int x2), (3, .long y20_3), (5, .int y20_5), (6, .int ((((isr x1 ((2 * y20_5)))) &&& 3))), (7, .int ((((isr x2 ((2 * y20_5)))) &&& 3))), (8, .int r22)], [.long ((lsl 1 ((36 + r28)))), .long y20_3])) rfl ?_
                    refine rsn 2 (t := (149, [(3, .long ((y20_3 ||| ((lsl 1 ((36 + r28))))))), (0, .ref 0), (1, .int x1), (2, .int x2), (5, .int y20_5), (6, .int ((((isr x1 ((2 * y20_5)))) &&& 3))), (7, .int ((((isr x2 ((2 * y20_5)))) &&& 3))), (8, .int r22)], [])) rfl ?_
                    exact rsub [(0, .ref 0), (1, .int x1), (2, .int x2), (3, .long ((y20_3 ||| ((lsl 1 ((36 + r28))))))), (5, .int y20_5), (6, .int ((((isr x1 ((2 * y20_5)))) &&& 3))), (7, .int ((((isr x2 ((2 * y20_5)))) &&& 3))), (8, .int r22)] ⟨rfl, ⟨rfl, ⟨rfl, ⟨rfl, ⟨rfl, ⟨rfl, ⟨rfl, ⟨rfl, trivial⟩⟩⟩⟩⟩⟩⟩⟩ ⟨rfl, ⟨rfl, ⟨rfl, ⟨rfl, ⟨rfl, ⟨rfl, ⟨rfl, ⟨rfl, trivial⟩⟩⟩⟩⟩⟩⟩⟩ (jp149 ((y20_3 ||| ((lsl 1 ((36 + r28)))))) h)
                  · rw [if_neg c27] at h
                    refine rjt (a := (149, [(0, .ref 0), (1, .int x1), (2, .int x2), (3, .long y20_3), (5, .int y20_5), (6, .int ((((isr x1 ((2 * y20_5)))) &&& 3))), (7, .int ((((isr x2 ((2 * y20_5)))) &&& 3))), (8, .int r22)], [])) (b := (127, [(0, .ref 0), (1, .int x1), (2, .int x2), (3, .long y20_3), (5, .int y20_5), (6, .int ((((isr x1 ((2 * y20_5)))) &&& 3))), (7, .int ((((isr x2 ((2 * y20_5)))) &&& 3))), (8, .int r22)], [])) rfl rfl c27 ?_
                    exact rsub [(0, .ref 0), (1, .int x1), (2, .int x2), (3, .long y20_3), (5, .int y20_5), (6, .int ((((isr x1 ((2 * y20_5)))) &&& 3))), (7, .int ((((isr x2 ((2 * y20_5)))) &&& 3))), (8, .int r22)] ⟨rfl, ⟨rfl, ⟨rfl, ⟨rfl, ⟨rfl, ⟨rfl, ⟨rfl, ⟨rfl, trivial⟩⟩⟩⟩⟩⟩⟩⟩ ⟨rfl, ⟨rfl, ⟨rfl, ⟨rfl, ⟨rfl, ⟨rfl, ⟨rfl, ⟨rfl, trivial⟩⟩⟩⟩⟩⟩⟩⟩ (jp149 y20_3 h)
                rw [jn] at h
                try dsimp only at h
                by_cases c29 : r22 = 0
                · rw [if_pos c29] at h
                  refine rjf (a := (113, [(8, .int r22), (7, .int ((((isr x2 ((2 * y20_5)))) &&& 3))), (6, .int ((((isr x1 ((2 * y20_5)))) &&& 3))), (0, .ref 0), (1, .int x1), (2, .int x2), (3, .long y20_3), (5, .int y20_5)], [])) (b := (97, [(8, .int r22), (7, .int ((((isr x2 ((2 * y20_5)))) &&& 3))), (6, .int ((((isr x1 ((2 * y20_5)))) &&& 3))), (0, .ref 0), (1, .int x1), (2, .int x2), (3, .long y20_3), (5, .int y20_5)], [])) rfl rfl (fun q => q c29) ?_
                  refine rsn 3 (t := (101, [(8, .int r22), (7, .int ((((isr x2 ((2 * y20_5)))) &&& 3))), (6, .int ((((isr x1 ((2 * y20_5)))) &&& 3))), (0, .ref 0), (1, .int x1), (2, .int x2), (3, .long y20_3), (5, .int y20_5)], [.ref 0, .int ((((isr x2 ((2 * y20_5)))) &&& 3)), .long y20_3])) rfl ?_
                  refine pgI rfl rfl rfl (hSh.k 0 rfl _) ?_
                  show RN xs L al (Ev xs L al d) 214 104 [(8, .int r22), (7, .int ((((isr x2 ((2 * y20_5)))) &&& 3))), (6, .int ((((isr x1 ((2 * y20_5)))) &&& 3))), (0, .ref 0), (1, .int x1), (2, .int x2), (3, .long y20_3), (5, .int y20_5)] [.int ((mI m5 0 21)), .int ((((isr x2 ((2 * y20_5)))) &&& 3)), .long y20_3] (m5, S) (some (.int r0)) (mf, S)
                  obtain ⟨r31, g31, h⟩ := b1_some h
                  refine rcS 180 [.long y20_3, .int ((((isr x2 ((2 * y20_5)))) &&& 3)), .int ((mI m5 0 21))] rfl rfl rfl (Nat.le_of_ble_eq_true rfl) rfl (e_Mo_mayGive N (by omega) g31) ?_
                  show RN xs L al (Ev xs L al d) 214 107 [(8, .int r22), (7, .int ((((isr x2 ((2 * y20_5)))) &&& 3))), (6, .int ((((isr x1 ((2 * y20_5)))) &&& 3))), (0, .ref 0), (1, .int x1), (2, .int x2), (3, .long y20_3), (5, .int y20_5)] [.int r31] (m5, S) (some (.int r0)) (mf, S)
                  by_cases c32 : r31 = 0
                  · rw [if_pos c32] at h
                    refine rjf (a := (121, [(8, .int r22), (7, .int ((((isr x2 ((2 * y20_5)))) &&& 3))), (6, .int ((((isr x1 ((2 * y20_5)))) &&& 3))), (0, .ref 0), (1, .int x1), (2, .int x2), (3, .long y20_3), (5, .int y20_5)], [])) (b := (110, [(8, .int r22), (7, .int ((((isr x2 ((2 * y20_5)))) &&& 3))), (6, .int ((((isr x1 ((2 * y20_5)))) &&& 3))), (0, .ref 0), (1, .int x1), (2, .int x2), (3, .long y20_3), (5, .int y20_5)], [])) rfl rfl (fun q => q c32) ?_
                    refine rsn 2 (t := (120, [(8, .int r22), (7, .int ((((isr x2 ((2 * y20_5)))) &&& 3))), (6, .int ((((isr x1 ((2 * y20_5)))) &&& 3))), (0, .ref 0), (1, .int x1), (2, .int x2), (3, .long y20_3), (5, .int y20_5)], [.int y20_5])) rfl ?_
                    cases h
                    exact rret rfl ⟨rfl, rfl, _, _, rfl, rfl, rfl, rfl⟩
                  · rw [if_neg c32] at h
                    refine rjt (a := (121, [(8, .int r22), (7, .int ((((isr x2 ((2 * y20_5)))) &&& 3))), (6, .int ((((isr x1 ((2 * y20_5)))) &&& 3))), (0, .ref 0), (1, .int x1), (2, .int x2), (3, .long y20_3), (5, .int y20_5)], [])) (b := (110, [(8, .int r22), (7, .int ((((isr x2 ((2 * y20_5)))) &&& 3))), (6, .int ((((isr x1 ((2 * y20_5)))) &&& 3))), (0, .ref 0), (1, .int x1), (2, .int x2), (3, .long y20_3), (5, .int y20_5)], [])) rfl rfl c32 ?_
                    exact rsub [(0, .ref 0), (1, .int x1), (2, .int x2), (3, .long y20_3), (5, .int y20_5), (6, .int ((((isr x1 ((2 * y20_5)))) &&& 3))), (7, .int ((((isr x2 ((2 * y20_5)))) &&& 3))), (8, .int r22)] ⟨rfl, ⟨rfl, ⟨rfl, ⟨rfl, ⟨rfl, ⟨rfl, ⟨rfl, ⟨rfl, trivial⟩⟩⟩⟩⟩⟩⟩⟩ ⟨rfl, ⟨rfl, ⟨rfl, ⟨rfl, ⟨rfl, ⟨rfl, ⟨rfl, ⟨rfl, trivial⟩⟩⟩⟩⟩⟩⟩⟩ (jp121 () h)
                · rw [if_neg c29] at h
                  refine rjt (a := (113, [(8, .int r22), (7, .int ((((isr x2 ((2 * y20_5)))) &&& 3))), (6, .int ((((isr x1 ((2 * y20_5)))) &&& 3))), (0, .ref 0), (1, .int x1), (2, .int x2), (3, .long y20_3), (5, .int y20_5)], [])) (b := (97, [(8, .int r22), (7, .int ((((isr x2 ((2 * y20_5)))) &&& 3))), (6, .int ((((isr x1 ((2 * y20_5)))) &&& 3))), (0, .ref 0), (1, .int x1), (2, .int x2), (3, .long y20_3), (5, .int y20_5)], [])) rfl rfl c29 ?_
                  refine rsn 1 (t := (115, [(8, .int r22), (7, .int ((((isr x2 ((2 * y20_5)))) &&& 3))), (6, .int ((((isr x1 ((2 * y20_5)))) &&& 3))), (0, .ref 0), (1, .int x1), (2, .int x2), (3, .long y20_3), (5, .int y20_5)], [.int ((((isr x2 ((2 * y20_5)))) &&& 3))])) rfl ?_
                  by_cases c30 : ((((isr x2 ((2 * y20_5)))) &&& 3)) = 0
                  · rw [if_pos c30] at h
                    refine rjt (a := (121, [(8, .int r22), (7, .int ((((isr x2 ((2 * y20_5)))) &&& 3))), (6, .int ((((isr x1 ((2 * y20_5)))) &&& 3))), (0, .ref 0), (1, .int x1), (2, .int x2), (3, .long y20_3), (5, .int y20_5)], [])) (b := (118, [(8, .int r22), (7, .int ((((isr x2 ((2 * y20_5)))) &&& 3))), (6, .int ((((isr x1 ((2 * y20_5)))) &&& 3))), (0, .ref 0), (1, .int x1), (2, .int x2), (3, .long y20_3), (5, .int y20_5)], [])) rfl rfl c30 ?_
                    exact rsub [(0, .ref 0), (1, .int x1), (2, .int x2), (3, .long y20_3), (5, .int y20_5), (6, .int ((((isr x1 ((2 * y20_5)))) &&& 3))), (7, .int ((((isr x2 ((2 * y20_5)))) &&& 3))), (8, .int r22)] ⟨rfl, ⟨rfl, ⟨rfl, ⟨rfl, ⟨rfl, ⟨rfl, ⟨rfl, ⟨rfl, trivial⟩⟩⟩⟩⟩⟩⟩⟩ ⟨rfl, ⟨rfl, ⟨rfl, ⟨rfl, ⟨rfl, ⟨rfl, ⟨rfl, ⟨rfl, trivial⟩⟩⟩⟩⟩⟩⟩⟩ (jp121 () h)
                  · rw [if_neg c30] at h
                    refine rjf (a := (121, [(8, .int r22), (7, .int ((((isr x2 ((2 * y20_5)))) &&& 3))), (6, .int ((((isr x1 ((2 * y20_5)))) &&& 3))), (0, .ref 0), (1, .int x1), (2, .int x2), (3, .long y20_3), (5, .int y20_5)], [])) (b := (118, [(8, .int r22), (7, .int ((((isr x2 ((2 * y20_5)))) &&& 3))), (6, .int ((((isr x1 ((2 * y20_5)))) &&& 3))), (0, .ref 0), (1, .int x1), (2, .int x2), (3, .long y20_3), (5, .int y20_5)], [])) rfl rfl c30 ?_
                    refine rsn 1 (t := (120, [(8, .int r22), (7, .int ((((isr x2 ((2 * y20_5)))) &&& 3))), (6, .int ((((isr x1 ((2 * y20_5)))) &&& 3))), (0, .ref 0), (1, .int x1), (2, .int x2), (3, .long y20_3), (5, .int y20_5)], [.int y20_5])) rfl ?_
                    cases h
                    exact rret rfl ⟨rfl, rfl, _, _, rfl, rfl, rfl, rfl⟩
          exact rsub [(0, .ref 0), (1, .int x1), (2, .int x2), (3, .long ((mJ m5 0 23))), (5, .int 0)] ⟨rfl, ⟨rfl, ⟨rfl, ⟨rfl, ⟨rfl, trivial⟩⟩⟩⟩⟩ ⟨rfl, ⟨rfl, ⟨rfl, ⟨rfl, ⟨rfl, trivial⟩⟩⟩⟩⟩ (lp42 N ((mJ m5 0 23)) 0 h)
    · rw [if_neg c2] at h
      refine rjt (a := (31, [(0, .ref 0), (1, .int x1), (2, .int x2)], [])) (b := (15, [(0, .ref 0), (1, .int x1), (2, .int x2)], [])) rfl rfl c2 ?_
      refine rsn 1 (t := (33, [(0, .ref 0), (1, .int x1), (2, .int x2)], [.int 9])) rfl ?_
      cases h
      exact rret rfl ⟨rfl, rfl, _, _, rfl, rfl, rfl, rfl⟩
def f_Mo_judged (N : Nat) (x1 : Int32) (x2 : Int32) (x3 : Int32) (m : Mm) : Option (Int32 × Mm) := b1 (f_Mo_isGoal N x1) fun r1 => (if r1 = 0 then some ((-2147483648), m) else b2 (f_Mo_judge N x2 x3 m) fun r3 m3 => (if r3 = ((-1)) then b2 (f_Mo_ends N ((mJ m3 0 46)) x1 ((mI m3 0 22)) m3) fun r5 m5 => some (r5, m5) else some ((-2147483648), m3)))
set_option maxRecDepth 20000 in
set_option maxHeartbeats 4000000 in
theorem e_Mo_judged {xs : Nat → Int32} {L : Nat} {al : Bool} (N : Nat) {d : Nat} (hd : 8 ≤ d) {S : St} (hSh : ShR S) {x1 : Int32} {x2 : Int32} {x3 : Int32} {m : Mm} {r0 : Int32} {mf : Mm} (h : f_Mo_judged N x1 x2 x3 m = some (r0, mf)) : Ev xs L al d 215 [.ref 0, .int x1, .int x2, .int x3] (m, S) (some (.int r0)) (mf, S) := by
  obtain ⟨d, rfl⟩ : ∃ e, d = e + 1 := ⟨d - 1, by omega⟩
  refine ev_of (by decide) (Nat.le_of_ble_eq_true rfl) ?_
  rw [f_Mo_judged] at h
  show RN xs L al (Ev xs L al d) 215 0 [(0, .ref 0), (1, .int x1), (2, .int x2), (3, .int x3)] [] (m, S) (some (.int r0)) (mf, S)
  refine rsn 1 (t := (1, [(0, .ref 0), (1, .int x1), (2, .int x2), (3, .int x3)], [.int x1])) rfl ?_
  obtain ⟨r1, g1, h⟩ := b1_some h
  refine rcS 184 [.int x1] rfl rfl rfl (Nat.le_of_ble_eq_true rfl) rfl (e_Mo_isGoal N (by omega) g1) ?_
  show RN xs L al (Ev xs L al d) 215 4 [(0, .ref 0), (1, .int x1), (2, .int x2), (3, .int x3)] [.int r1] (m, S) (some (.int r0)) (mf, S)
  by_cases c2 : r1 = 0
  · rw [if_pos c2] at h
    refine rjt (a := (33, [(0, .ref 0), (1, .int x1), (2, .int x2), (3, .int x3)], [])) (b := (7, [(0, .ref 0), (1, .int x1), (2, .int x2), (3, .int x3)], [])) rfl rfl c2 ?_
    refine rsn 1 (t := (36, [(0, .ref 0), (1, .int x1), (2, .int x2), (3, .int x3)], [.int ((-2147483648))])) rfl ?_
    cases h
    exact rret rfl ⟨rfl, rfl, _, _, rfl, rfl, rfl, rfl⟩
  · rw [if_neg c2] at h
    refine rjf (a := (33, [(0, .ref 0), (1, .int x1), (2, .int x2), (3, .int x3)], [])) (b := (7, [(0, .ref 0), (1, .int x1), (2, .int x2), (3, .int x3)], [])) rfl rfl c2 ?_
    refine rsn 3 (t := (10, [(0, .ref 0), (1, .int x1), (2, .int x2), (3, .int x3)], [.int x3, .int x2, .ref 0])) rfl ?_
    obtain ⟨r3, m3, g3, h⟩ := b2_some h
    refine rcV 214 0 [.int x2, .int x3] rfl rfl rfl (hSh.k 0 rfl _) (Nat.le_of_ble_eq_true rfl) rfl (e_Mo_judge N (by omega) hSh g3) ?_
    show RN xs L al (Ev xs L al d) 215 13 [(0, .ref 0), (1, .int x1), (2, .int x2), (3, .int x3)] [.int r3] (m3, S) (some (.int r0)) (mf, S)
    refine rsn 1 (t := (14, [(0, .ref 0), (1, .int x1), (2, .int x2), (3, .int x3)], [.int ((-1)), .int r3])) rfl ?_
    by_cases c4 : r3 = ((-1))
    · rw [if_pos c4] at h
      refine rjf (a := (33, [(0, .ref 0), (1, .int x1), (2, .int x2), (3, .int x3)], [])) (b := (17, [(0, .ref 0), (1, .int x1), (2, .int x2), (3, .int x3)], [])) rfl rfl (fun q => q c4) ?_
      refine rsn 2 (t := (19, [(0, .ref 0), (1, .int x1), (2, .int x2), (3, .int x3)], [.ref 0, .ref 0])) rfl ?_
      refine pgJ rfl rfl rfl (hSh.k 0 rfl _) ?_
      show RN xs L al (Ev xs L al d) 215 22 [(0, .ref 0), (1, .int x1), (2, .int x2), (3, .int x3)] [.long ((mJ m3 0 46)), .ref 0] (m3, S) (some (.int r0)) (mf, S)
      refine rsn 2 (t := (24, [(0, .ref 0), (1, .int x1), (2, .int x2), (3, .int x3)], [.ref 0, .int x1, .long ((mJ m3 0 46)), .ref 0])) rfl ?_
      refine pgI rfl rfl rfl (hSh.k 0 rfl _) ?_
      show RN xs L al (Ev xs L al d) 215 27 [(0, .ref 0), (1, .int x1), (2, .int x2), (3, .int x3)] [.int ((mI m3 0 22)), .int x1, .long ((mJ m3 0 46)), .ref 0] (m3, S) (some (.int r0)) (mf, S)
      obtain ⟨r5, m5, g5, h⟩ := b2_some h
      refine rcV 185 0 [.long ((mJ m3 0 46)), .int x1, .int ((mI m3 0 22))] rfl rfl rfl (hSh.k 0 rfl _) (Nat.le_of_ble_eq_true rfl) rfl (e_Mo_ends N (by omega) hSh g5) ?_
      show RN xs L al (Ev xs L al d) 215 30 [(0, .ref 0), (1, .int x1), (2, .int x2), (3, .int x3)] [.int r5] (m5, S) (some (.int r0)) (mf, S)
      refine rsn 1 (t := (36, [(0, .ref 0), (1, .int x1), (2, .int x2), (3, .int x3)], [.int r5])) rfl ?_
      cases h
      exact rret rfl ⟨rfl, rfl, _, _, rfl, rfl, rfl, rfl⟩
    · rw [if_neg c4] at h
      refine rjt (a := (33, [(0, .ref 0), (1, .int x1), (2, .int x2), (3, .int x3)], [])) (b := (17, [(0, .ref 0), (1, .int x1), (2, .int x2), (3, .int x3)], [])) rfl rfl c4 ?_
      refine rsn 1 (t := (36, [(0, .ref 0), (1, .int x1), (2, .int x2), (3, .int x3)], [.int ((-2147483648))])) rfl ?_
      cases h
      exact rret rfl ⟨rfl, rfl, _, _, rfl, rfl, rfl, rfl⟩
def f_Mo_image (N : Nat) (x1 : Int32) (m : Mm) : Option (Int32 × Mm) := (if ((mI m 0 15)) = 0 then some (0, m) else b1 (f_Mo_in N x1 0 3) fun r2 => (if r2 = 0 then some (0, m) else ck (ix x1 4) (ck (ix x1 4) (ck (ix x1 4) (ck (ix x1 4) (some (1, (vX (vX (vX (vY m 10 x1.toNatClampNeg ((mJ m 0 23))) 11 x1.toNatClampNeg ((mI m 0 24))) 12 x1.toNatClampNeg ((mI m 0 25))) 13 x1.toNatClampNeg ((vp_nar .boolean 1))))))))))
set_option maxRecDepth 20000 in
set_option maxHeartbeats 4000000 in
theorem e_Mo_image {xs : Nat → Int32} {L : Nat} {al : Bool} (N : Nat) {d : Nat} (hd : 2 ≤ d) {S : St} (hSh : ShR S) {x1 : Int32} {m : Mm} {r0 : Int32} {mf : Mm} (h : f_Mo_image N x1 m = some (r0, mf)) : Ev xs L al d 216 [.ref 0, .int x1] (m, S) (some (.int r0)) (mf, S) := by
  obtain ⟨d, rfl⟩ : ∃ e, d = e + 1 := ⟨d - 1, by omega⟩
  refine ev_of (by decide) (Nat.le_of_ble_eq_true rfl) ?_
  rw [f_Mo_image] at h
  show RN xs L al (Ev xs L al d) 216 0 [(0, .ref 0), (1, .int x1)] [] (m, S) (some (.int r0)) (mf, S)
  refine rsn 1 (t := (1, [(0, .ref 0), (1, .int x1)], [.ref 0])) rfl ?_
  refine pgI rfl rfl rfl (hSh.k 0 rfl _) ?_
  show RN xs L al (Ev xs L al d) 216 4 [(0, .ref 0), (1, .int x1)] [.int ((mI m 0 15))] (m, S) (some (.int r0)) (mf, S)
  by_cases c1 : ((mI m 0 15)) = 0
  · rw [if_pos c1] at h
    refine rjt (a := (16, [(0, .ref 0), (1, .int x1)], [])) (b := (7, [(0, .ref 0), (1, .int x1)], [])) rfl rfl c1 ?_
    refine rsn 1 (t := (17, [(0, .ref 0), (1, .int x1)], [.int 0])) rfl ?_
    cases h
    exact rret rfl ⟨rfl, rfl, _, _, rfl, rfl, rfl, rfl⟩
  · rw [if_neg c1] at h
    refine rjf (a := (16, [(0, .ref 0), (1, .int x1)], [])) (b := (7, [(0, .ref 0), (1, .int x1)], [])) rfl rfl c1 ?_
    refine rsn 3 (t := (10, [(0, .ref 0), (1, .int x1)], [.int 3, .int 0, .int x1])) rfl ?_
    obtain ⟨r2, g2, h⟩ := b1_some h
    refine rcS 146 [.int x1, .int 0, .int 3] rfl rfl rfl (Nat.le_of_ble_eq_true rfl) rfl (e_Mo_in N (by omega) g2) ?_
    show RN xs L al (Ev xs L al d) 216 13 [(0, .ref 0), (1, .int x1)] [.int r2] (m, S) (some (.int r0)) (mf, S)
    by_cases c3 : r2 = 0
    · rw [if_pos c3] at h
      refine rjf (a := (18, [(0, .ref 0), (1, .int x1)], [])) (b := (16, [(0, .ref 0), (1, .int x1)], [])) rfl rfl (fun q => q c3) ?_
      refine rsn 1 (t := (17, [(0, .ref 0), (1, .int x1)], [.int 0])) rfl ?_
      cases h
      exact rret rfl ⟨rfl, rfl, _, _, rfl, rfl, rfl, rfl⟩
    · rw [if_neg c3] at h
      refine rjt (a := (18, [(0, .ref 0), (1, .int x1)], [])) (b := (16, [(0, .ref 0), (1, .int x1)], [])) rfl rfl c3 ?_
      refine rsn 1 (t := (19, [(0, .ref 0), (1, .int x1)], [.ref 0])) rfl ?_
      refine rgR rfl rfl rfl (hSh.k 0 rfl _) (hSh.r 9 rfl _) ?_
      refine rsn 2 (t := (24, [(0, .ref 0), (1, .int x1)], [.ref 0, .int x1, .ref 10])) rfl ?_
      refine pgJ rfl rfl rfl (hSh.k 0 rfl _) ?_
      show RN xs L al (Ev xs L al d) 216 27 [(0, .ref 0), (1, .int x1)] [.long ((mJ m 0 23)), .int x1, .ref 10] (m, S) (some (.int r0)) (mf, S)
      obtain ⟨c4, h⟩ := ck_some h
      refine psJ rfl (hSh.k 10 rfl _) (hSh.l 9 rfl _) c4 ?_
      refine rsn 1 (t := (29, [(0, .ref 0), (1, .int x1)], [.ref 0])) rfl ?_
      refine rgR rfl rfl rfl (hSh.k 0 rfl _) (hSh.r 10 rfl _) ?_
      refine rsn 2 (t := (34, [(0, .ref 0), (1, .int x1)], [.ref 0, .int x1, .ref 11])) rfl ?_
      refine pgI rfl rfl rfl (hSh.k 0 rfl _) ?_
      show RN xs L al (Ev xs L al d) 216 37 [(0, .ref 0), (1, .int x1)] [.int ((mI m 0 24)), .int x1, .ref 11] ((vY m 10 x1.toNatClampNeg ((mJ m 0 23))), S) (some (.int r0)) (mf, S)
      obtain ⟨c5, h⟩ := ck_some h
      refine psI rfl (hSh.k 11 rfl _) (hSh.l 10 rfl _) c5 ?_
      refine rsn 1 (t := (39, [(0, .ref 0), (1, .int x1)], [.ref 0])) rfl ?_
      refine rgR rfl rfl rfl (hSh.k 0 rfl _) (hSh.r 11 rfl _) ?_
      refine rsn 2 (t := (44, [(0, .ref 0), (1, .int x1)], [.ref 0, .int x1, .ref 12])) rfl ?_
      refine pgI rfl rfl rfl (hSh.k 0 rfl _) ?_
      show RN xs L al (Ev xs L al d) 216 47 [(0, .ref 0), (1, .int x1)] [.int ((mI m 0 25)), .int x1, .ref 12] ((vX (vY m 10 x1.toNatClampNeg ((mJ m 0 23))) 11 x1.toNatClampNeg ((mI m 0 24))), S) (some (.int r0)) (mf, S)
      obtain ⟨c6, h⟩ := ck_some h
      refine psI rfl (hSh.k 12 rfl _) (hSh.l 11 rfl _) c6 ?_
      refine rsn 1 (t := (49, [(0, .ref 0), (1, .int x1)], [.ref 0])) rfl ?_
      refine rgR rfl rfl rfl (hSh.k 0 rfl _) (hSh.r 12 rfl _) ?_
      refine rsn 2 (t := (54, [(0, .ref 0), (1, .int x1)], [.int 1, .int x1, .ref 13])) rfl ?_
      obtain ⟨c7, h⟩ := ck_some h
      refine psZ rfl (hSh.k 13 rfl _) (hSh.l 12 rfl _) c7 ?_
      refine rsn 1 (t := (56, [(0, .ref 0), (1, .int x1)], [.int 1])) rfl ?_
      cases h
      exact rret rfl ⟨rfl, rfl, _, _, rfl, rfl, rfl, rfl⟩
def f_Mo_on (N : Nat) (x1 : Int32) (m : Mm) : Option (Int32 × Mm) := b1 (f_Mo_in N x1 0 3) fun r1 => (if r1 = 0 then some (0, m) else ck (ix x1 4) ((if ((mX m 13 x1.toNatClampNeg)) = 0 then some (0, m) else ck (ix x1 4) (ck (ix x1 4) (ck (ix x1 4) (some (1, (vI (vI (vJ m 0 23 ((mYy m 10 x1.toNatClampNeg))) 0 24 ((mX m 11 x1.toNatClampNeg))) 0 25 ((mX m 12 x1.toNatClampNeg))))))))))
set_option maxRecDepth 20000 in
set_option maxHeartbeats 4000000 in
theorem e_Mo_on {xs : Nat → Int32} {L : Nat} {al : Bool} (N : Nat) {d : Nat} (hd : 2 ≤ d) {S : St} (hSh : ShR S) {x1 : Int32} {m : Mm} {r0 : Int32} {mf : Mm} (h : f_Mo_on N x1 m = some (r0, mf)) : Ev xs L al d 217 [.ref 0, .int x1] (m, S) (some (.int r0)) (mf, S) := by
  obtain ⟨d, rfl⟩ : ∃ e, d = e + 1 := ⟨d - 1, by omega⟩
  refine ev_of (by decide) (Nat.le_of_ble_eq_true rfl) ?_
  rw [f_Mo_on] at h
  show RN xs L al (Ev xs L al d) 217 0 [(0, .ref 0), (1, .int x1)] [] (m, S) (some (.int r0)) (mf, S)
  refine rsn 3 (t := (3, [(0, .ref 0), (1, .int x1)], [.int 3, .int 0, .int x1])) rfl ?_
  obtain ⟨r1, g1, h⟩ := b1_some h
  refine rcS 146 [.int x1, .int 0, .int 3] rfl rfl rfl (Nat.le_of_ble_eq_true rfl) rfl (e_Mo_in N (by omega) g1) ?_
  show RN xs L al (Ev xs L al d) 217 6 [(0, .ref 0), (1, .int x1)] [.int r1] (m, S) (some (.int r0)) (mf, S)
  by_cases c2 : r1 = 0
  · rw [if_pos c2] at h
    refine rjt (a := (18, [(0, .ref 0), (1, .int x1)], [])) (b := (9, [(0, .ref 0), (1, .int x1)], [])) rfl rfl c2 ?_
    refine rsn 1 (t := (19, [(0, .ref 0), (1, .int x1)], [.int 0])) rfl ?_
    cases h
    exact rret rfl ⟨rfl, rfl, _, _, rfl, rfl, rfl, rfl⟩
  · rw [if_neg c2] at h
    refine rjf (a := (18, [(0, .ref 0), (1, .int x1)], [])) (b := (9, [(0, .ref 0), (1, .int x1)], [])) rfl rfl c2 ?_
    refine rsn 1 (t := (10, [(0, .ref 0), (1, .int x1)], [.ref 0])) rfl ?_
    refine rgR rfl rfl rfl (hSh.k 0 rfl _) (hSh.r 12 rfl _) ?_
    refine rsn 1 (t := (14, [(0, .ref 0), (1, .int x1)], [.int x1, .ref 13])) rfl ?_
    obtain ⟨c3, h⟩ := ck_some h
    refine pxB rfl (Or.inr (hSh.k 13 rfl _)) (hSh.l 12 rfl _) c3 ?_
    show RN xs L al (Ev xs L al d) 217 15 [(0, .ref 0), (1, .int x1)] [.int ((mX m 13 x1.toNatClampNeg))] (m, S) (some (.int r0)) (mf, S)
    by_cases c4 : ((mX m 13 x1.toNatClampNeg)) = 0
    · rw [if_pos c4] at h
      refine rjf (a := (20, [(0, .ref 0), (1, .int x1)], [])) (b := (18, [(0, .ref 0), (1, .int x1)], [])) rfl rfl (fun q => q c4) ?_
      refine rsn 1 (t := (19, [(0, .ref 0), (1, .int x1)], [.int 0])) rfl ?_
      cases h
      exact rret rfl ⟨rfl, rfl, _, _, rfl, rfl, rfl, rfl⟩
    · rw [if_neg c4] at h
      refine rjt (a := (20, [(0, .ref 0), (1, .int x1)], [])) (b := (18, [(0, .ref 0), (1, .int x1)], [])) rfl rfl c4 ?_
      refine rsn 2 (t := (22, [(0, .ref 0), (1, .int x1)], [.ref 0, .ref 0])) rfl ?_
      refine rgR rfl rfl rfl (hSh.k 0 rfl _) (hSh.r 9 rfl _) ?_
      refine rsn 1 (t := (26, [(0, .ref 0), (1, .int x1)], [.int x1, .ref 10, .ref 0])) rfl ?_
      obtain ⟨c5, h⟩ := ck_some h
      refine pxJ rfl (hSh.k 10 rfl _) (hSh.l 9 rfl _) c5 ?_
      show RN xs L al (Ev xs L al d) 217 27 [(0, .ref 0), (1, .int x1)] [.long ((mYy m 10 x1.toNatClampNeg)), .ref 0] (m, S) (some (.int r0)) (mf, S)
      refine ppJ rfl rfl rfl rfl (hSh.k 0 rfl _) ?_
      refine rsn 2 (t := (32, [(0, .ref 0), (1, .int x1)], [.ref 0, .ref 0])) rfl ?_
      refine rgR rfl rfl rfl (hSh.k 0 rfl _) (hSh.r 10 rfl _) ?_
      refine rsn 1 (t := (36, [(0, .ref 0), (1, .int x1)], [.int x1, .ref 11, .ref 0])) rfl ?_
      obtain ⟨c6, h⟩ := ck_some h
      refine pxI rfl (hSh.k 11 rfl _) (hSh.l 10 rfl _) c6 ?_
      show RN xs L al (Ev xs L al d) 217 37 [(0, .ref 0), (1, .int x1)] [.int ((mX m 11 x1.toNatClampNeg)), .ref 0] ((vJ m 0 23 ((mYy m 10 x1.toNatClampNeg))), S) (some (.int r0)) (mf, S)
      refine ppI rfl rfl rfl rfl (hSh.k 0 rfl _) ?_
      refine rsn 2 (t := (42, [(0, .ref 0), (1, .int x1)], [.ref 0, .ref 0])) rfl ?_
      refine rgR rfl rfl rfl (hSh.k 0 rfl _) (hSh.r 11 rfl _) ?_
      refine rsn 1 (t := (46, [(0, .ref 0), (1, .int x1)], [.int x1, .ref 12, .ref 0])) rfl ?_
      obtain ⟨c7, h⟩ := ck_some h
      refine pxI rfl (hSh.k 12 rfl _) (hSh.l 11 rfl _) c7 ?_
      show RN xs L al (Ev xs L al d) 217 47 [(0, .ref 0), (1, .int x1)] [.int ((mX m 12 x1.toNatClampNeg)), .ref 0] ((vI (vJ m 0 23 ((mYy m 10 x1.toNatClampNeg))) 0 24 ((mX m 11 x1.toNatClampNeg))), S) (some (.int r0)) (mf, S)
      refine ppI rfl rfl rfl rfl (hSh.k 0 rfl _) ?_
      refine rsn 1 (t := (51, [(0, .ref 0), (1, .int x1)], [.int 1])) rfl ?_
      cases h
      exact rret rfl ⟨rfl, rfl, _, _, rfl, rfl, rfl, rfl⟩
def f_Mo_count (N : Nat) (x1 : Int32) (m : Mm) : Option (Int32) := (if x1 = 0 then some ((mI m 0 16)) else (if x1 = 1 then some ((mI m 0 18)) else (if x1 = 2 then some ((mI m 0 24)) else (if x1 = 3 then some (((((lsr ((mJ m 0 23)) 36)).toInt32) &&& 7)) else (if x1 = 4 then b1 (f_Mo_held N ((mJ m 0 23))) fun r1 => some r1 else (if x1 = 5 then some ((mI m 0 25)) else (if x1 = 6 then some ((mI m 0 21)) else (if x1 = 7 then some ((mI m 0 22)) else (if x1 = 8 then some ((mI m 0 1)) else some ((-1)))))))))))
set_option maxRecDepth 20000 in
set_option maxHeartbeats 4000000 in
theorem e_Mo_count {xs : Nat → Int32} {L : Nat} {al : Bool} (N : Nat) {d : Nat} (hd : 3 ≤ d) {S : St} (hSh : ShR S) {x1 : Int32} {m : Mm} {r0 : Int32} (h : f_Mo_count N x1 m = some r0) : Ev xs L al d 218 [.ref 0, .int x1] (m, S) (some (.int r0)) (m, S) := by
  obtain ⟨d, rfl⟩ : ∃ e, d = e + 1 := ⟨d - 1, by omega⟩
  refine ev_of (by decide) (Nat.le_of_ble_eq_true rfl) ?_
  rw [f_Mo_count] at h
  show RN xs L al (Ev xs L al d) 218 0 [(0, .ref 0), (1, .int x1)] [] (m, S) (some (.int r0)) (m, S)
  refine rsn 1 (t := (1, [(0, .ref 0), (1, .int x1)], [.int x1])) rfl ?_
  by_cases c2 : x1 = 0
  · rw [if_pos c2] at h
    refine rs (t := (52, [(0, .ref 0), (1, .int x1)], [])) rfl (by rw [c2]; exact sw_i (pc := 1) (o := 51) ⟨by decide, by simp⟩ (by decide) (by decide)) ?_
    refine rsn 1 (t := (53, [(0, .ref 0), (1, .int x1)], [.ref 0])) rfl ?_
    refine pgI rfl rfl rfl (hSh.k 0 rfl _) ?_
    show RN xs L al (Ev xs L al d) 218 56 [(0, .ref 0), (1, .int x1)] [.int ((mI m 0 16))] (m, S) (some (.int r0)) (m, S)
    cases h
    exact rret rfl ⟨rfl, rfl, _, _, rfl, rfl, rfl, rfl⟩
  rw [if_neg c2] at h
  by_cases c3 : x1 = 1
  · rw [if_pos c3] at h
    refine rs (t := (57, [(0, .ref 0), (1, .int x1)], [])) rfl (by rw [c3]; exact sw_i (pc := 1) (o := 56) ⟨by decide, by simp⟩ (by decide) (by decide)) ?_
    refine rsn 1 (t := (58, [(0, .ref 0), (1, .int x1)], [.ref 0])) rfl ?_
    refine pgI rfl rfl rfl (hSh.k 0 rfl _) ?_
    show RN xs L al (Ev xs L al d) 218 61 [(0, .ref 0), (1, .int x1)] [.int ((mI m 0 18))] (m, S) (some (.int r0)) (m, S)
    cases h
    exact rret rfl ⟨rfl, rfl, _, _, rfl, rfl, rfl, rfl⟩
  rw [if_neg c3] at h
  by_cases c4 : x1 = 2
  · rw [if_pos c4] at h
    refine rs (t := (62, [(0, .ref 0), (1, .int x1)], [])) rfl (by rw [c4]; exact sw_i (pc := 1) (o := 61) ⟨by decide, by simp⟩ (by decide) (by decide)) ?_
    refine rsn 1 (t := (63, [(0, .ref 0), (1, .int x1)], [.ref 0])) rfl ?_
    refine pgI rfl rfl rfl (hSh.k 0 rfl _) ?_
    show RN xs L al (Ev xs L al d) 218 66 [(0, .ref 0), (1, .int x1)] [.int ((mI m 0 24))] (m, S) (some (.int r0)) (m, S)
    cases h
    exact rret rfl ⟨rfl, rfl, _, _, rfl, rfl, rfl, rfl⟩
  rw [if_neg c4] at h
  by_cases c5 : x1 = 3
  · rw [if_pos c5] at h
    refine rs (t := (67, [(0, .ref 0), (1, .int x1)], [])) rfl (by rw [c5]; exact sw_i (pc := 1) (o := 66) ⟨by decide, by simp⟩ (by decide) (by decide)) ?_
    refine rsn 1 (t := (68, [(0, .ref 0), (1, .int x1)], [.ref 0])) rfl ?_
    refine pgJ rfl rfl rfl (hSh.k 0 rfl _) ?_
    show RN xs L al (Ev xs L al d) 218 71 [(0, .ref 0), (1, .int x1)] [.long ((mJ m 0 23))] (m, S) (some (.int r0)) (m, S)
    refine rsn 1 (t := (73, [(0, .ref 0), (1, .int x1)], [.int 36, .long ((mJ m 0 23))])) rfl ?_
    refine rsn 1 (t := (74, [(0, .ref 0), (1, .int x1)], [.long ((lsr ((mJ m 0 23)) 36))])) rfl ?_
    refine rsn 3 (t := (78, [(0, .ref 0), (1, .int x1)], [.int (((((lsr ((mJ m 0 23)) 36)).toInt32) &&& 7))])) rfl ?_
    cases h
    exact rret rfl ⟨rfl, rfl, _, _, rfl, rfl, rfl, rfl⟩
  rw [if_neg c5] at h
  by_cases c6 : x1 = 4
  · rw [if_pos c6] at h
    refine rs (t := (79, [(0, .ref 0), (1, .int x1)], [])) rfl (by rw [c6]; exact sw_i (pc := 1) (o := 78) ⟨by decide, by simp⟩ (by decide) (by decide)) ?_
    refine rsn 1 (t := (80, [(0, .ref 0), (1, .int x1)], [.ref 0])) rfl ?_
    refine pgJ rfl rfl rfl (hSh.k 0 rfl _) ?_
    show RN xs L al (Ev xs L al d) 218 83 [(0, .ref 0), (1, .int x1)] [.long ((mJ m 0 23))] (m, S) (some (.int r0)) (m, S)
    obtain ⟨r1, g1, h⟩ := b1_some h
    refine rcS 181 [.long ((mJ m 0 23))] rfl rfl rfl (Nat.le_of_ble_eq_true rfl) rfl (e_Mo_held N (by omega) g1) ?_
    show RN xs L al (Ev xs L al d) 218 86 [(0, .ref 0), (1, .int x1)] [.int r1] (m, S) (some (.int r0)) (m, S)
    cases h
    exact rret rfl ⟨rfl, rfl, _, _, rfl, rfl, rfl, rfl⟩
  rw [if_neg c6] at h
  by_cases c7 : x1 = 5
  · rw [if_pos c7] at h
    refine rs (t := (87, [(0, .ref 0), (1, .int x1)], [])) rfl (by rw [c7]; exact sw_i (pc := 1) (o := 86) ⟨by decide, by simp⟩ (by decide) (by decide)) ?_
    refine rsn 1 (t := (88, [(0, .ref 0), (1, .int x1)], [.ref 0])) rfl ?_
    refine pgI rfl rfl rfl (hSh.k 0 rfl _) ?_
    show RN xs L al (Ev xs L al d) 218 91 [(0, .ref 0), (1, .int x1)] [.int ((mI m 0 25))] (m, S) (some (.int r0)) (m, S)
    cases h
    exact rret rfl ⟨rfl, rfl, _, _, rfl, rfl, rfl, rfl⟩
  rw [if_neg c7] at h
  by_cases c8 : x1 = 6
  · rw [if_pos c8] at h
    refine rs (t := (92, [(0, .ref 0), (1, .int x1)], [])) rfl (by rw [c8]; exact sw_i (pc := 1) (o := 91) ⟨by decide, by simp⟩ (by decide) (by decide)) ?_
    refine rsn 1 (t := (93, [(0, .ref 0), (1, .int x1)], [.ref 0])) rfl ?_
    refine pgI rfl rfl rfl (hSh.k 0 rfl _) ?_
    show RN xs L al (Ev xs L al d) 218 96 [(0, .ref 0), (1, .int x1)] [.int ((mI m 0 21))] (m, S) (some (.int r0)) (m, S)
    cases h
    exact rret rfl ⟨rfl, rfl, _, _, rfl, rfl, rfl, rfl⟩
  rw [if_neg c8] at h
  by_cases c9 : x1 = 7
  · rw [if_pos c9] at h
    refine rs (t := (97, [(0, .ref 0), (1, .int x1)], [])) rfl (by rw [c9]; exact sw_i (pc := 1) (o := 96) ⟨by decide, by simp⟩ (by decide) (by decide)) ?_
    refine rsn 1 (t := (98, [(0, .ref 0), (1, .int x1)], [.ref 0])) rfl ?_
    refine pgI rfl rfl rfl (hSh.k 0 rfl _) ?_
    show RN xs L al (Ev xs L al d) 218 101 [(0, .ref 0), (1, .int x1)] [.int ((mI m 0 22))] (m, S) (some (.int r0)) (m, S)
    cases h
    exact rret rfl ⟨rfl, rfl, _, _, rfl, rfl, rfl, rfl⟩
  rw [if_neg c9] at h
  by_cases c10 : x1 = 8
  · rw [if_pos c10] at h
    refine rs (t := (102, [(0, .ref 0), (1, .int x1)], [])) rfl (by rw [c10]; exact sw_i (pc := 1) (o := 101) ⟨by decide, by simp⟩ (by decide) (by decide)) ?_
    refine rsn 1 (t := (103, [(0, .ref 0), (1, .int x1)], [.ref 0])) rfl ?_
    refine pgI rfl rfl rfl (hSh.k 0 rfl _) ?_
    show RN xs L al (Ev xs L al d) 218 106 [(0, .ref 0), (1, .int x1)] [.int ((mI m 0 1))] (m, S) (some (.int r0)) (m, S)
    cases h
    exact rret rfl ⟨rfl, rfl, _, _, rfl, rfl, rfl, rfl⟩
  rw [if_neg c10] at h
  refine rs (t := (107, [(0, .ref 0), (1, .int x1)], [])) rfl (sw_d (pc := 1) ⟨by decide, by simp⟩ (sw_out (n := 8) (by intro i hi; match i, hi with | 0, _ => exact c2 | 1, _ => exact c3 | 2, _ => exact c4 | 3, _ => exact c5 | 4, _ => exact c6 | 5, _ => exact c7 | 6, _ => exact c8 | 7, _ => exact c9 | 8, _ => exact c10 | i + 9, hi => exact absurd hi (by omega)) (by decide))) ?_
  refine rsn 1 (t := (108, [(0, .ref 0), (1, .int x1)], [.int ((-1))])) rfl ?_
  cases h
  exact rret rfl ⟨rfl, rfl, _, _, rfl, rfl, rfl, rfl⟩
