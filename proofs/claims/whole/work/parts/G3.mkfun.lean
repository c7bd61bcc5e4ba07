/-! MAKING: the loops that number amounts, as functions (printed by wip/whole/gen_fun.py). -/
def f_Arrays_fill_L5 (N : Nat) (S : St) (x0 : Nat) (x1 : Int32) (x3 : Int32) (k5 : Int32 → Mm → Option (Mm)) : Nat → Int32 → Mm → Option (Mm)
  | 0, _, _ => none
  | n5 + 1, x2, m => (if x3 ≤ x2 then k5 x2 m else ck (ix x2 (S.2.2.1 x0)) (f_Arrays_fill_L5 N S x0 x1 x3 k5 n5 ((x2 + 1)) ((vX m x0 x2.toNatClampNeg x1))))
def f_Arrays_fill (N : Nat) (S : St) (x0 : Nat) (x1 : Int32) (m : Mm) : Option (Mm) := f_Arrays_fill_L5 N S x0 x1 ((Int32.ofNat ((S.2.2.1 x0)))) (fun (z3_2 : Int32) (m3 : Mm) => some m3) N 0 m
set_option maxRecDepth 20000 in
set_option maxHeartbeats 4000000 in
theorem e_Arrays_fill {xs : Nat → Int32} {L : Nat} {al : Bool} (N : Nat) {d : Nat} (hd : 1 ≤ d) {S : St} {x0 : Nat} {x1 : Int32} (hx0 : ∀ m : Mm, Kd (m, S) x0 12) {m : Mm} {mf : Mm} (h : f_Arrays_fill N S x0 x1 m = some mf) : Ev xs L al d 6 [.ref x0, .int x1] (m, S) none (mf, S) := by
  obtain ⟨d, rfl⟩ : ∃ e, d = e + 1 := ⟨d - 1, by omega⟩
  refine ev_of (by decide) (Nat.le_of_ble_eq_true rfl) ?_
  rw [f_Arrays_fill] at h
  show RN xs L al (Ev xs L al d) 6 0 [(0, .ref x0), (1, .int x1)] [] (m, S) none (mf, S)
  refine rsn 3 (t := (3, [(2, .int 0), (0, .ref x0), (1, .int x1)], [.ref x0])) rfl ?_
  refine rxL rfl (hx0 _) (by decide) rfl ?_
  show RN xs L al (Ev xs L al d) 6 4 [(2, .int 0), (0, .ref x0), (1, .int x1)] [.int ((Int32.ofNat ((S.2.2.1 x0))))] (m, S) none (mf, S)
  refine rsn 1 (t := (5, [(3, .int ((Int32.ofNat ((S.2.2.1 x0))))), (2, .int 0), (0, .ref x0), (1, .int x1)], [])) rfl ?_
  have ex5 : ∀ (z3_2 : Int32) (m3 : Mm), (some m3) = some mf → RN xs L al (Ev xs L al d) 6 20 [] [] (m3, S) none (mf, S) := by
    intro z3_2 m3 h
    try dsimp only at h
    have h := Option.some.inj h
    subst h
    exact rret rfl ⟨rfl, rfl, rfl, rfl, rfl⟩
  have lp5 : ∀ (n : Nat) (y4_2 : Int32) (m4 : Mm), (f_Arrays_fill_L5 N S x0 x1 ((Int32.ofNat ((S.2.2.1 x0)))) (fun (z3_2 : Int32) (m3 : Mm) => some m3) n y4_2 m4) = some mf → RN xs L al (Ev xs L al d) 6 5 [(0, .ref x0), (1, .int x1), (2, .int y4_2), (3, .int ((Int32.ofNat ((S.2.2.1 x0)))))] [] (m4, S) none (mf, S) := by
    intro n
    induction n with
    | zero => intro y4_2 m4 h; exact absurd h (by simp [f_Arrays_fill_L5])
    | succ n5 ih5 =>
      intro y4_2 m4 h
      try dsimp only at h
      rw [f_Arrays_fill_L5] at h
      try dsimp only at h
      refine rsn 2 (t := (7, [(0, .ref x0), (1, .int x1), (2, .int y4_2), (3, .int ((Int32.ofNat ((S.2.2.1 x0)))))], [.int ((Int32.ofNat ((S.2.2.1 x0)))), .int y4_2])) rfl ?_
      by_cases c5 : ((Int32.ofNat ((S.2.2.1 x0)))) ≤ y4_2
      · rw [if_pos c5] at h
        refine rjt (a := (20, [(0, .ref x0), (1, .int x1), (2, .int y4_2), (3, .int ((Int32.ofNat ((S.2.2.1 x0)))))], [])) (b := (10, [(0, .ref x0), (1, .int x1), (2, .int y4_2), (3, .int ((Int32.ofNat ((S.2.2.1 x0)))))], [])) rfl rfl c5 ?_
        exact rsub [] trivial trivial (ex5 y4_2 m4 h)
      · rw [if_neg c5] at h
        refine rjf (a := (20, [(0, .ref x0), (1, .int x1), (2, .int y4_2), (3, .int ((Int32.ofNat ((S.2.2.1 x0)))))], [])) (b := (10, [(0, .ref x0), (1, .int x1), (2, .int y4_2), (3, .int ((Int32.ofNat ((S.2.2.1 x0)))))], [])) rfl rfl c5 ?_
        refine rsn 3 (t := (13, [(0, .ref x0), (1, .int x1), (2, .int y4_2), (3, .int ((Int32.ofNat ((S.2.2.1 x0)))))], [.int x1, .int y4_2, .ref x0])) rfl ?_
        obtain ⟨c6, h⟩ := ck_some h
        refine psI rfl (hx0 _) rfl c6 ?_
        refine rsn 2 (t := (5, [(2, .int ((y4_2 + 1))), (0, .ref x0), (1, .int x1), (3, .int ((Int32.ofNat ((S.2.2.1 x0)))))], [])) rfl ?_
        exact rsub [(0, .ref x0), (1, .int x1), (2, .int ((y4_2 + 1))), (3, .int ((Int32.ofNat ((S.2.2.1 x0)))))] ⟨rfl, ⟨rfl, ⟨rfl, ⟨rfl, trivial⟩⟩⟩⟩ ⟨rfl, ⟨rfl, ⟨rfl, ⟨rfl, trivial⟩⟩⟩⟩ (ih5 ((y4_2 + 1)) ((vX m4 x0 y4_2.toNatClampNeg x1)) h)
  exact rsub [(0, .ref x0), (1, .int x1), (2, .int 0), (3, .int ((Int32.ofNat ((S.2.2.1 x0)))))] ⟨rfl, ⟨rfl, ⟨rfl, ⟨rfl, trivial⟩⟩⟩⟩ ⟨rfl, ⟨rfl, ⟨rfl, ⟨rfl, trivial⟩⟩⟩⟩ (lp5 N 0 m h)
def f_Ranks_numberAmounts_L43 (N : Nat) (S : St) (x0 : Nat) (x1 : Nat) (x2 : Nat) (x4 : Int32) (x5 : Int32) (x6 : Int32) (k43 : Int32 → Int32 → Mm → Option (Mm)) : Nat → Int32 → Int32 → Mm → Option (Mm)
  | 0, _, _, _ => none
  | n43 + 1, x3, x7, m => (if x4 < ((((x5 + x6)) + x7)) then k43 x3 x7 m else ck (ix ((((((x5 ||| ((isl x6 3)))) ||| ((isl x7 6)))) ||| ((isl ((((((x4 - x5)) - x6)) - x7)) 9)))) (S.2.2.1 x0)) (ck (ix x3 (S.2.2.1 x1)) (f_Ranks_numberAmounts_L43 N S x0 x1 x2 x4 x5 x6 k43 n43 ((x3 + 1)) ((x7 + 1)) ((vX (vX m x0 (((((((x5 ||| ((isl x6 3)))) ||| ((isl x7 6)))) ||| ((isl ((((((x4 - x5)) - x6)) - x7)) 9)))).toNatClampNeg) x3) x1 x3.toNatClampNeg x4)))))
def f_Ranks_numberAmounts_L30 (N : Nat) (S : St) (x0 : Nat) (x1 : Nat) (x2 : Nat) (x4 : Int32) (x5 : Int32) (k30 : Int32 → Int32 → Mm → Option (Mm)) : Nat → Int32 → Int32 → Mm → Option (Mm)
  | 0, _, _, _ => none
  | n30 + 1, x3, x6, m => (if x4 < ((x5 + x6)) then k30 x3 x6 m else f_Ranks_numberAmounts_L43 N S x0 x1 x2 x4 x5 x6 (fun (z8_3 : Int32) (z8_7 : Int32) (m8 : Mm) => f_Ranks_numberAmounts_L30 N S x0 x1 x2 x4 x5 k30 n30 z8_3 ((x6 + 1)) m8) N x3 0 m)
def f_Ranks_numberAmounts_L20 (N : Nat) (S : St) (x0 : Nat) (x1 : Nat) (x2 : Nat) (x4 : Int32) (k20 : Int32 → Int32 → Mm → Option (Mm)) : Nat → Int32 → Int32 → Mm → Option (Mm)
  | 0, _, _, _ => none
  | n20 + 1, x3, x5, m => (if x4 < x5 then k20 x3 x5 m else f_Ranks_numberAmounts_L30 N S x0 x1 x2 x4 x5 (fun (z13_3 : Int32) (z13_6 : Int32) (m13 : Mm) => f_Ranks_numberAmounts_L20 N S x0 x1 x2 x4 k20 n20 z13_3 ((x5 + 1)) m13) N x3 0 m)
def f_Ranks_numberAmounts_L10 (N : Nat) (S : St) (x0 : Nat) (x1 : Nat) (x2 : Nat) (k10 : Int32 → Int32 → Mm → Option (Mm)) : Nat → Int32 → Int32 → Mm → Option (Mm)
  | 0, _, _, _ => none
  | n10 + 1, x3, x4, m => (if 6 < x4 then k10 x3 x4 m else f_Ranks_numberAmounts_L20 N S x0 x1 x2 x4 (fun (z24_3 : Int32) (z24_5 : Int32) (m24 : Mm) => ck (ix x4 (S.2.2.1 x2)) (f_Ranks_numberAmounts_L10 N S x0 x1 x2 k10 n10 z24_3 ((x4 + 1)) ((vX m24 x2 x4.toNatClampNeg z24_3)))) N x3 0 m)
def f_Ranks_numberAmounts (N : Nat) (S : St) (x0 : Nat) (x1 : Nat) (x2 : Nat) (m : Mm) : Option (Mm) := b3 (f_Arrays_fill N S x0 ((-1)) m) fun m1 => f_Ranks_numberAmounts_L10 N S x0 x1 x2 (fun (z48_3 : Int32) (z48_4 : Int32) (m48 : Mm) => some m48) N 0 0 m1
set_option maxRecDepth 20000 in
set_option maxHeartbeats 4000000 in
theorem e_Ranks_numberAmounts {xs : Nat → Int32} {L : Nat} {al : Bool} (N : Nat) {d : Nat} (hd : 2 ≤ d) {S : St} {x0 : Nat} {x1 : Nat} {x2 : Nat} (hx0 : ∀ m : Mm, Kd (m, S) x0 12) (hx1 : ∀ m : Mm, Kd (m, S) x1 12) (hx2 : ∀ m : Mm, Kd (m, S) x2 12) {m : Mm} {mf : Mm} (h : f_Ranks_numberAmounts N S x0 x1 x2 m = some mf) : Ev xs L al d 5 [.ref x0, .ref x1, .ref x2] (m, S) none (mf, S) := by
  obtain ⟨d, rfl⟩ : ∃ e, d = e + 1 := ⟨d - 1, by omega⟩
  refine ev_of (by decide) (Nat.le_of_ble_eq_true rfl) ?_
  rw [f_Ranks_numberAmounts] at h
  show RN xs L al (Ev xs L al d) 5 0 [(0, .ref x0), (1, .ref x1), (2, .ref x2)] [] (m, S) none (mf, S)
  refine rsn 2 (t := (2, [(0, .ref x0), (1, .ref x1), (2, .ref x2)], [.int ((-1)), .ref x0])) rfl ?_
  obtain ⟨m1, g1, h⟩ := b3_some h
  refine rcS 6 [.ref x0, .int ((-1))] rfl rfl rfl (Nat.le_of_ble_eq_true rfl) rfl (e_Arrays_fill N (by omega) (fun m => (hx0 m)) g1) ?_
  show RN xs L al (Ev xs L al d) 5 5 [(0, .ref x0), (1, .ref x1), (2, .ref x2)] [] (m1, S) none (mf, S)
  refine rsn 4 (t := (10, [(4, .int 0), (3, .int 0), (0, .ref x0), (1, .ref x1), (2, .ref x2)], [])) rfl ?_
  have ex10 : ∀ (z48_3 : Int32) (z48_4 : Int32) (m48 : Mm), (some m48) = some mf → RN xs L al (Ev xs L al d) 5 128 [] [] (m48, S) none (mf, S) := by
    intro z48_3 z48_4 m48 h
    try dsimp only at h
    have h := Option.some.inj h
    subst h
    exact rret rfl ⟨rfl, rfl, rfl, rfl, rfl⟩
  have lp10 : ∀ (n : Nat) (y49_3 : Int32) (y49_4 : Int32) (m49 : Mm), (f_Ranks_numberAmounts_L10 N S x0 x1 x2 (fun (z48_3 : Int32) (z48_4 : Int32) (m48 : Mm) => some m48) n y49_3 y49_4 m49) = some mf → RN xs L al (Ev xs L al d) 5 10 [(0, .ref x0), (1, .ref x1), (2, .ref x2), (3, .int y49_3), (4, .int y49_4)] [] (m49, S) none (mf, S) := by
    intro n
    induction n with
    | zero => intro y49_3 y49_4 m49 h; exact absurd h (by simp [f_Ranks_numberAmounts_L10])
    | succ n10 ih10 =>
      intro y49_3 y49_4 m49 h
      try dsimp only at h
      rw [f_Ranks_numberAmounts_L10] at h
      try dsimp only at h
      refine rsn 2 (t := (14, [(0, .ref x0), (1, .ref x1), (2, .ref x2), (3, .int y49_3), (4, .int y49_4)], [.int 6, .int y49_4])) rfl ?_
      by_cases c50 : 6 < y49_4
      · rw [if_pos c50] at h
        refine rjt (a := (128, [(0, .ref x0), (1, .ref x1), (2, .ref x2), (3, .int y49_3), (4, .int y49_4)], [])) (b := (17, [(0, .ref x0), (1, .ref x1), (2, .ref x2), (3, .int y49_3), (4, .int y49_4)], [])) rfl rfl c50 ?_
        exact rsub [] trivial trivial (ex10 y49_3 y49_4 m49 h)
      · rw [if_neg c50] at h
        refine rjf (a := (128, [(0, .ref x0), (1, .ref x1), (2, .ref x2), (3, .int y49_3), (4, .int y49_4)], [])) (b := (17, [(0, .ref x0), (1, .ref x1), (2, .ref x2), (3, .int y49_3), (4, .int y49_4)], [])) rfl rfl c50 ?_
        refine rsn 2 (t := (20, [(5, .int 0), (0, .ref x0), (1, .ref x1), (2, .ref x2), (3, .int y49_3), (4, .int y49_4)], [])) rfl ?_
        have ex20 : ∀ (z72_3 : Int32) (z72_5 : Int32) (m72 : Mm), (ck (ix y49_4 (S.2.2.1 x2)) (f_Ranks_numberAmounts_L10 N S x0 x1 x2 (fun (z48_3 : Int32) (z48_4 : Int32) (m48 : Mm) => some m48) n10 z72_3 ((y49_4 + 1)) ((vX m72 x2 y49_4.toNatClampNeg z72_3)))) = some mf → RN xs L al (Ev xs L al d) 5 117 [(0, .ref x0), (1, .ref x1), (2, .ref x2), (3, .int z72_3), (4, .int y49_4)] [] (m72, S) none (mf, S) := by
          intro z72_3 z72_5 m72 h
          try dsimp only at h
          refine rsn 3 (t := (121, [(0, .ref x0), (1, .ref x1), (2, .ref x2), (3, .int z72_3), (4, .int y49_4)], [.int z72_3, .int y49_4, .ref x2])) rfl ?_
          obtain ⟨c73, h⟩ := ck_some h
          refine psI rfl (hx2 _) rfl c73 ?_
          refine rsn 2 (t := (10, [(4, .int ((y49_4 + 1))), (0, .ref x0), (1, .ref x1), (2, .ref x2), (3, .int z72_3)], [])) rfl ?_
          exact rsub [(0, .ref x0), (1, .ref x1), (2, .ref x2), (3, .int z72_3), (4, .int ((y49_4 + 1)))] ⟨rfl, ⟨rfl, ⟨rfl, ⟨rfl, ⟨rfl, trivial⟩⟩⟩⟩⟩ ⟨rfl, ⟨rfl, ⟨rfl, ⟨rfl, ⟨rfl, trivial⟩⟩⟩⟩⟩ (ih10 z72_3 ((y49_4 + 1)) ((vX m72 x2 y49_4.toNatClampNeg z72_3)) h)
        have lp20 : ∀ (n : Nat) (y74_3 : Int32) (y74_5 : Int32) (m74 : Mm), (f_Ranks_numberAmounts_L20 N S x0 x1 x2 y49_4 (fun (z72_3 : Int32) (z72_5 : Int32) (m72 : Mm) => ck (ix y49_4 (S.2.2.1 x2)) (f_Ranks_numberAmounts_L10 N S x0 x1 x2 (fun (z48_3 : Int32) (z48_4 : Int32) (m48 : Mm) => some m48) n10 z72_3 ((y49_4 + 1)) ((vX m72 x2 y49_4.toNatClampNeg z72_3)))) n y74_3 y74_5 m74) = some mf → RN xs L al (Ev xs L al d) 5 20 [(0, .ref x0), (1, .ref x1), (2, .ref x2), (3, .int y74_3), (4, .int y49_4), (5, .int y74_5)] [] (m74, S) none (mf, S) := by
          intro n
          induction n with
          | zero => intro y74_3 y74_5 m74 h; exact absurd h (by simp [f_Ranks_numberAmounts_L20])
          | succ n20 ih20 =>
            intro y74_3 y74_5 m74 h
            try dsimp only at h
            rw [f_Ranks_numberAmounts_L20] at h
            try dsimp only at h
            refine rsn 2 (t := (24, [(0, .ref x0), (1, .ref x1), (2, .ref x2), (3, .int y74_3), (4, .int y49_4), (5, .int y74_5)], [.int y49_4, .int y74_5])) rfl ?_
            by_cases c75 : y49_4 < y74_5
            · rw [if_pos c75] at h
              refine rjt (a := (117, [(0, .ref x0), (1, .ref x1), (2, .ref x2), (3, .int y74_3), (4, .int y49_4), (5, .int y74_5)], [])) (b := (27, [(0, .ref x0), (1, .ref x1), (2, .ref x2), (3, .int y74_3), (4, .int y49_4), (5, .int y74_5)], [])) rfl rfl c75 ?_
              exact rsub [(0, .ref x0), (1, .ref x1), (2, .ref x2), (3, .int y74_3), (4, .int y49_4)] ⟨rfl, ⟨rfl, ⟨rfl, ⟨rfl, ⟨rfl, trivial⟩⟩⟩⟩⟩ ⟨rfl, ⟨rfl, ⟨rfl, ⟨rfl, ⟨rfl, trivial⟩⟩⟩⟩⟩ (ex20 y74_3 y74_5 m74 h)
            · rw [if_neg c75] at h
              refine rjf (a := (117, [(0, .ref x0), (1, .ref x1), (2, .ref x2), (3, .int y74_3), (4, .int y49_4), (5, .int y74_5)], [])) (b := (27, [(0, .ref x0), (1, .ref x1), (2, .ref x2), (3, .int y74_3), (4, .int y49_4), (5, .int y74_5)], [])) rfl rfl c75 ?_
              refine rsn 2 (t := (30, [(6, .int 0), (0, .ref x0), (1, .ref x1), (2, .ref x2), (3, .int y74_3), (4, .int y49_4), (5, .int y74_5)], [])) rfl ?_
              have ex30 : ∀ (z85_3 : Int32) (z85_6 : Int32) (m85 : Mm), (f_Ranks_numberAmounts_L20 N S x0 x1 x2 y49_4 (fun (z72_3 : Int32) (z72_5 : Int32) (m72 : Mm) => ck (ix y49_4 (S.2.2.1 x2)) (f_Ranks_numberAmounts_L10 N S x0 x1 x2 (fun (z48_3 : Int32) (z48_4 : Int32) (m48 : Mm) => some m48) n10 z72_3 ((y49_4 + 1)) ((vX m72 x2 y49_4.toNatClampNeg z72_3)))) n20 z85_3 ((y74_5 + 1)) m85) = some mf → RN xs L al (Ev xs L al d) 5 111 [(0, .ref x0), (1, .ref x1), (2, .ref x2), (3, .int z85_3), (4, .int y49_4), (5, .int y74_5)] [] (m85, S) none (mf, S) := by
                intro z85_3 z85_6 m85 h
                try dsimp only at h
                refine rsn 2 (t := (20, [(5, .int ((y74_5 + 1))), (0, .ref x0), (1, .ref x1), (2, .ref x2), (3, .int z85_3), (4, .int y49_4)], [])) rfl ?_
                exact rsub [(0, .ref x0), (1, .ref x1), (2, .ref x2), (3, .int z85_3), (4, .int y49_4), (5, .int ((y74_5 + 1)))] ⟨rfl, ⟨rfl, ⟨rfl, ⟨rfl, ⟨rfl, ⟨rfl, trivial⟩⟩⟩⟩⟩⟩ ⟨rfl, ⟨rfl, ⟨rfl, ⟨rfl, ⟨rfl, ⟨rfl, trivial⟩⟩⟩⟩⟩⟩ (ih20 z85_3 ((y74_5 + 1)) m85 h)
              have lp30 : ∀ (n : Nat) (y86_3 : Int32) (y86_6 : Int32) (m86 : Mm), (f_Ranks_numberAmounts_L30 N S x0 x1 x2 y49_4 y74_5 (fun (z85_3 : Int32) (z85_6 : Int32) (m85 : Mm) => f_Ranks_numberAmounts_L20 N S x0 x1 x2 y49_4 (fun (z72_3 : Int32) (z72_5 : Int32) (m72 : Mm) => ck (ix y49_4 (S.2.2.1 x2)) (f_Ranks_numberAmounts_L10 N S x0 x1 x2 (fun (z48_3 : Int32) (z48_4 : Int32) (m48 : Mm) => some m48) n10 z72_3 ((y49_4 + 1)) ((vX m72 x2 y49_4.toNatClampNeg z72_3)))) n20 z85_3 ((y74_5 + 1)) m85) n y86_3 y86_6 m86) = some mf → RN xs L al (Ev xs L al d) 5 30 [(0, .ref x0), (1, .ref x1), (2, .ref x2), (3, .int y86_3), (4, .int y49_4), (5, .int y74_5), (6, .int y86_6)] [] (m86, S) none (mf, S) := by
                intro n
                induction n with
                | zero => intro y86_3 y86_6 m86 h; exact absurd h (by simp [f_Ranks_numberAmounts_L30])
                | succ n30 ih30 =>
                  intro y86_3 y86_6 m86 h
                  try dsimp only at h
                  rw [f_Ranks_numberAmounts_L30] at h
                  try dsimp only at h
                  refine rsn 4 (t := (37, [(0, .ref x0), (1, .ref x1), (2, .ref x2), (3, .int y86_3), (4, .int y49_4), (5, .int y74_5), (6, .int y86_6)], [.int y49_4, .int ((y74_5 + y86_6))])) rfl ?_
                  by_cases c87 : y49_4 < ((y74_5 + y86_6))
                  · rw [if_pos c87] at h
                    refine rjt (a := (111, [(0, .ref x0), (1, .ref x1), (2, .ref x2), (3, .int y86_3), (4, .int y49_4), (5, .int y74_5), (6, .int y86_6)], [])) (b := (40, [(0, .ref x0), (1, .ref x1), (2, .ref x2), (3, .int y86_3), (4, .int y49_4), (5, .int y74_5), (6, .int y86_6)], [])) rfl rfl c87 ?_
                    exact rsub [(0, .ref x0), (1, .ref x1), (2, .ref x2), (3, .int y86_3), (4, .int y49_4), (5, .int y74_5)] ⟨rfl, ⟨rfl, ⟨rfl, ⟨rfl, ⟨rfl, ⟨rfl, trivial⟩⟩⟩⟩⟩⟩ ⟨rfl, ⟨rfl, ⟨rfl, ⟨rfl, ⟨rfl, ⟨rfl, trivial⟩⟩⟩⟩⟩⟩ (ex30 y86_3 y86_6 m86 h)
                  · rw [if_neg c87] at h
                    refine rjf (a := (111, [(0, .ref x0), (1, .ref x1), (2, .ref x2), (3, .int y86_3), (4, .int y49_4), (5, .int y74_5), (6, .int y86_6)], [])) (b := (40, [(0, .ref x0), (1, .ref x1), (2, .ref x2), (3, .int y86_3), (4, .int y49_4), (5, .int y74_5), (6, .int y86_6)], [])) rfl rfl c87 ?_
                    refine rsn 2 (t := (43, [(7, .int 0), (0, .ref x0), (1, .ref x1), (2, .ref x2), (3, .int y86_3), (4, .int y49_4), (5, .int y74_5), (6, .int y86_6)], [])) rfl ?_
                    have ex43 : ∀ (z91_3 : Int32) (z91_7 : Int32) (m91 : Mm), (f_Ranks_numberAmounts_L30 N S x0 x1 x2 y49_4 y74_5 (fun (z85_3 : Int32) (z85_6 : Int32) (m85 : Mm) => f_Ranks_numberAmounts_L20 N S x0 x1 x2 y49_4 (fun (z72_3 : Int32) (z72_5 : Int32) (m72 : Mm) => ck (ix y49_4 (S.2.2.1 x2)) (f_Ranks_numberAmounts_L10 N S x0 x1 x2 (fun (z48_3 : Int32) (z48_4 : Int32) (m48 : Mm) => some m48) n10 z72_3 ((y49_4 + 1)) ((vX m72 x2 y49_4.toNatClampNeg z72_3)))) n20 z85_3 ((y74_5 + 1)) m85) n30 z91_3 ((y86_6 + 1)) m91) = some mf → RN xs L al (Ev xs L al d) 5 105 [(0, .ref x0), (1, .ref x1), (2, .ref x2), (3, .int z91_3), (4, .int y49_4), (5, .int y74_5), (6, .int y86_6)] [] (m91, S) none (mf, S) := by
                      intro z91_3 z91_7 m91 h
                      try dsimp only at h
                      refine rsn 2 (t := (30, [(6, .int ((y86_6 + 1))), (0, .ref x0), (1, .ref x1), (2, .ref x2), (3, .int z91_3), (4, .int y49_4), (5, .int y74_5)], [])) rfl ?_
                      exact rsub [(0, .ref x0), (1, .ref x1), (2, .ref x2), (3, .int z91_3), (4, .int y49_4), (5, .int y74_5), (6, .int ((y86_6 + 1)))] ⟨rfl, ⟨rfl, ⟨rfl, ⟨rfl, ⟨rfl, ⟨rfl, ⟨rfl, trivial⟩⟩⟩⟩⟩⟩⟩ ⟨rfl, ⟨rfl, ⟨rfl, ⟨rfl, ⟨rfl, ⟨rfl, ⟨rfl, trivial⟩⟩⟩⟩⟩⟩⟩ (ih30 z91_3 ((y86_6 + 1)) m91 h)
                    have lp43 : ∀ (n : Nat) (y92_3 : Int32) (y92_7 : Int32) (m92 : Mm), (f_Ranks_numberAmounts_L43 N S x0 x1 x2 y49_4 y74_5 y86_6 (fun (z91_3 : Int32) (z91_7 : Int32) (m91 : Mm) => f_Ranks_numberAmounts_L30 N S x0 x1 x2 y49_4 y74_5 (fun (z85_3 : Int32) (z85_6 : Int32) (m85 : Mm) => f_Ranks_numberAmounts_L20 N S x0 x1 x2 y49_4 (fun (z72_3 : Int32) (z72_5 : Int32) (m72 : Mm) => ck (ix y49_4 (S.2.2.1 x2)) (f_Ranks_numberAmounts_L10 N S x0 x1 x2 (fun (z48_3 : Int32) (z48_4 : Int32) (m48 : Mm) => some m48) n10 z72_3 ((y49_4 + 1)) ((vX m72 x2 y49_4.toNatClampNeg z72_3)))) n20 z85_3 ((y74_5 + 1)) m85) n30 z91_3 ((y86_6 + 1)) m91) n y92_3 y92_7 m92) = some mf → RN xs L al (Ev xs L al d) 5 43 [(0, .ref x0), (1, .ref x1), (2, .ref x2), (3, .int y92_3), (4, .int y49_4), (5, .int y74_5), (6, .int y86_6), (7, .int y92_7)] [] (m92, S) none (mf, S) := by
                      intro n
                      induction n with
                      | zero => intro y92_3 y92_7 m92 h; exact absurd h (by simp [f_Ranks_numberAmounts_L43])
                      | succ n43 ih43 =>
                        intro y92_3 y92_7 m92 h
                        try dsimp only at h
                        rw [f_Ranks_numberAmounts_L43] at h
                        try dsimp only at h
                        refine rsn 6 (t := (53, [(0, .ref x0), (1, .ref x1), (2, .ref x2), (3, .int y92_3), (4, .int y49_4), (5, .int y74_5), (6, .int y86_6), (7, .int y92_7)], [.int y49_4, .int ((((y74_5 + y86_6)) + y92_7))])) rfl ?_
                        by_cases c93 : y49_4 < ((((y74_5 + y86_6)) + y92_7))
                        · rw [if_pos c93] at h
                          refine rjt (a := (105, [(0, .ref x0), (1, .ref x1), (2, .ref x2), (3, .int y92_3), (4, .int y49_4), (5, .int y74_5), (6, .int y86_6), (7, .int y92_7)], [])) (b := (56, [(0, .ref x0), (1, .ref x1), (2, .ref x2), (3, .int y92_3), (4, .int y49_4), (5, .int y74_5), (6, .int y86_6), (7, .int y92_7)], [])) rfl rfl c93 ?_
                          exact rsub [(0, .ref x0), (1, .ref x1), (2, .ref x2), (3, .int y92_3), (4, .int y49_4), (5, .int y74_5), (6, .int y86_6)] ⟨rfl, ⟨rfl, ⟨rfl, ⟨rfl, ⟨rfl, ⟨rfl, ⟨rfl, trivial⟩⟩⟩⟩⟩⟩⟩ ⟨rfl, ⟨rfl, ⟨rfl, ⟨rfl, ⟨rfl, ⟨rfl, ⟨rfl, trivial⟩⟩⟩⟩⟩⟩⟩ (ex43 y92_3 y92_7 m92 h)
                        · rw [if_neg c93] at h
                          refine rjf (a := (105, [(0, .ref x0), (1, .ref x1), (2, .ref x2), (3, .int y92_3), (4, .int y49_4), (5, .int y74_5), (6, .int y86_6), (7, .int y92_7)], [])) (b := (56, [(0, .ref x0), (1, .ref x1), (2, .ref x2), (3, .int y92_3), (4, .int y49_4), (5, .int y74_5), (6, .int y86_6), (7, .int y92_7)], [])) rfl rfl c93 ?_
                          refine rsn 23 (t := (90, [(8, .int ((((((y49_4 - y74_5)) - y86_6)) - y92_7))), (0, .ref x0), (1, .ref x1), (2, .ref x2), (3, .int y92_3), (4, .int y49_4), (5, .int y74_5), (6, .int y86_6), (7, .int y92_7)], [.int y92_3, .int ((((((y74_5 ||| ((isl y86_6 3)))) ||| ((isl y92_7 6)))) ||| ((isl ((((((y49_4 - y74_5)) - y86_6)) - y92_7)) 9)))), .ref x0])) rfl ?_
                          obtain ⟨c94, h⟩ := ck_some h
                          refine psI rfl (hx0 _) rfl c94 ?_
                          refine rsn 3 (t := (95, [(8, .int ((((((y49_4 - y74_5)) - y86_6)) - y92_7))), (0, .ref x0), (1, .ref x1), (2, .ref x2), (3, .int y92_3), (4, .int y49_4), (5, .int y74_5), (6, .int y86_6), (7, .int y92_7)], [.int y49_4, .int y92_3, .ref x1])) rfl ?_
                          obtain ⟨c95, h⟩ := ck_some h
                          refine psI rfl (hx1 _) rfl c95 ?_
                          refine rsn 3 (t := (43, [(7, .int ((y92_7 + 1))), (3, .int ((y92_3 + 1))), (8, .int ((((((y49_4 - y74_5)) - y86_6)) - y92_7))), (0, .ref x0), (1, .ref x1), (2, .ref x2), (4, .int y49_4), (5, .int y74_5), (6, .int y86_6)], [])) rfl ?_
                          exact rsub [(0, .ref x0), (1, .ref x1), (2, .ref x2), (3, .int ((y92_3 + 1))), (4, .int y49_4), (5, .int y74_5), (6, .int y86_6), (7, .int ((y92_7 + 1)))] ⟨rfl, ⟨rfl, ⟨rfl, ⟨rfl, ⟨rfl, ⟨rfl, ⟨rfl, ⟨rfl, trivial⟩⟩⟩⟩⟩⟩⟩⟩ ⟨rfl, ⟨rfl, ⟨rfl, ⟨rfl, ⟨rfl, ⟨rfl, ⟨rfl, ⟨rfl, trivial⟩⟩⟩⟩⟩⟩⟩⟩ (ih43 ((y92_3 + 1)) ((y92_7 + 1)) ((vX (vX m92 x0 (((((((y74_5 ||| ((isl y86_6 3)))) ||| ((isl y92_7 6)))) ||| ((isl ((((((y49_4 - y74_5)) - y86_6)) - y92_7)) 9)))).toNatClampNeg) y92_3) x1 y92_3.toNatClampNeg y49_4)) h)
                    exact rsub [(0, .ref x0), (1, .ref x1), (2, .ref x2), (3, .int y86_3), (4, .int y49_4), (5, .int y74_5), (6, .int y86_6), (7, .int 0)] ⟨rfl, ⟨rfl, ⟨rfl, ⟨rfl, ⟨rfl, ⟨rfl, ⟨rfl, ⟨rfl, trivial⟩⟩⟩⟩⟩⟩⟩⟩ ⟨rfl, ⟨rfl, ⟨rfl, ⟨rfl, ⟨rfl, ⟨rfl, ⟨rfl, ⟨rfl, trivial⟩⟩⟩⟩⟩⟩⟩⟩ (lp43 N y86_3 0 m86 h)
              exact rsub [(0, .ref x0), (1, .ref x1), (2, .ref x2), (3, .int y74_3), (4, .int y49_4), (5, .int y74_5), (6, .int 0)] ⟨rfl, ⟨rfl, ⟨rfl, ⟨rfl, ⟨rfl, ⟨rfl, ⟨rfl, trivial⟩⟩⟩⟩⟩⟩⟩ ⟨rfl, ⟨rfl, ⟨rfl, ⟨rfl, ⟨rfl, ⟨rfl, ⟨rfl, trivial⟩⟩⟩⟩⟩⟩⟩ (lp30 N y74_3 0 m74 h)
        exact rsub [(0, .ref x0), (1, .ref x1), (2, .ref x2), (3, .int y49_3), (4, .int y49_4), (5, .int 0)] ⟨rfl, ⟨rfl, ⟨rfl, ⟨rfl, ⟨rfl, ⟨rfl, trivial⟩⟩⟩⟩⟩⟩ ⟨rfl, ⟨rfl, ⟨rfl, ⟨rfl, ⟨rfl, ⟨rfl, trivial⟩⟩⟩⟩⟩⟩ (lp20 N y49_3 0 m49 h)
  exact rsub [(0, .ref x0), (1, .ref x1), (2, .ref x2), (3, .int 0), (4, .int 0)] ⟨rfl, ⟨rfl, ⟨rfl, ⟨rfl, ⟨rfl, trivial⟩⟩⟩⟩⟩ ⟨rfl, ⟨rfl, ⟨rfl, ⟨rfl, ⟨rfl, trivial⟩⟩⟩⟩⟩ (lp10 N 0 0 m1 h)
def f_Ranks_sumUp_L16 (N : Nat) (S : St) (x0 : Nat) (x1 : Nat) (x2 : Nat) (x3 : Nat) (x4 : Int32) (k16 : Int32 → Int32 → Mm → Option (Mm)) : Nat → Int32 → Int32 → Mm → Option (Mm)
  | 0, _, _, _ => none
  | n16 + 1, x5, x6, m => (if 210 ≤ x6 then k16 x5 x6 m else ck (ix x6 (S.2.2.1 x0)) ((if x4 < ((mX m x0 x6.toNatClampNeg)) then k16 x5 x6 m else ck (ix ((((x4 * 210)) + x6)) (S.2.2.1 x2)) (ck (ix x6 (S.2.2.1 x0)) (ck (ix ((x4 - ((mX (vX m x2 (((((x4 * 210)) + x6)).toNatClampNeg) x5) x0 x6.toNatClampNeg)))) (S.2.2.1 x1)) (f_Ranks_sumUp_L16 N S x0 x1 x2 x3 x4 k16 n16 ((x5 + ((mX (vX m x2 (((((x4 * 210)) + x6)).toNatClampNeg) x5) x1 (((x4 - ((mX (vX m x2 (((((x4 * 210)) + x6)).toNatClampNeg) x5) x0 x6.toNatClampNeg)))).toNatClampNeg))))) ((x6 + 1)) ((vX m x2 (((((x4 * 210)) + x6)).toNatClampNeg) x5))))))))
def f_Ranks_sumUp_L3 (N : Nat) (S : St) (x0 : Nat) (x1 : Nat) (x2 : Nat) (x3 : Nat) (k3 : Int32 → Mm → Option (Mm)) : Nat → Int32 → Mm → Option (Mm)
  | 0, _, _ => none
  | n3 + 1, x4, m => (if 6 < x4 then k3 x4 m else f_Ranks_sumUp_L16 N S x0 x1 x2 x3 x4 (fun (z8_5 : Int32) (z8_6 : Int32) (m8 : Mm) => ck (ix x4 (S.2.2.1 x3)) (f_Ranks_sumUp_L3 N S x0 x1 x2 x3 k3 n3 ((x4 + 1)) ((vX m8 x3 x4.toNatClampNeg z8_5)))) N 0 0 m)
def f_Ranks_sumUp (N : Nat) (S : St) (x0 : Nat) (x1 : Nat) (x2 : Nat) (x3 : Nat) (m : Mm) : Option (Mm) := f_Ranks_sumUp_L3 N S x0 x1 x2 x3 (fun (z17_4 : Int32) (m17 : Mm) => some m17) N 0 m
set_option maxRecDepth 20000 in
set_option maxHeartbeats 4000000 in
theorem e_Ranks_sumUp {xs : Nat → Int32} {L : Nat} {al : Bool} (N : Nat) {d : Nat} (hd : 1 ≤ d) {S : St} {x0 : Nat} {x1 : Nat} {x2 : Nat} {x3 : Nat} (hx0 : ∀ m : Mm, Kd (m, S) x0 12) (hx1 : ∀ m : Mm, Kd (m, S) x1 12) (hx2 : ∀ m : Mm, Kd (m, S) x2 12) (hx3 : ∀ m : Mm, Kd (m, S) x3 12) {m : Mm} {mf : Mm} (h : f_Ranks_sumUp N S x0 x1 x2 x3 m = some mf) : Ev xs L al d 7 [.ref x0, .ref x1, .ref x2, .ref x3] (m, S) none (mf, S) := by
  obtain ⟨d, rfl⟩ : ∃ e, d = e + 1 := ⟨d - 1, by omega⟩
  refine ev_of (by decide) (Nat.le_of_ble_eq_true rfl) ?_
  rw [f_Ranks_sumUp] at h
  show RN xs L al (Ev xs L al d) 7 0 [(0, .ref x0), (1, .ref x1), (2, .ref x2), (3, .ref x3)] [] (m, S) none (mf, S)
  refine rsn 2 (t := (3, [(4, .int 0), (0, .ref x0), (1, .ref x1), (2, .ref x2), (3, .ref x3)], [])) rfl ?_
  have ex3 : ∀ (z17_4 : Int32) (m17 : Mm), (some m17) = some mf → RN xs L al (Ev xs L al d) 7 78 [] [] (m17, S) none (mf, S) := by
    intro z17_4 m17 h
    try dsimp only at h
    have h := Option.some.inj h
    subst h
    exact rret rfl ⟨rfl, rfl, rfl, rfl, rfl⟩
  have lp3 : ∀ (n : Nat) (y18_4 : Int32) (m18 : Mm), (f_Ranks_sumUp_L3 N S x0 x1 x2 x3 (fun (z17_4 : Int32) (m17 : Mm) => some m17) n y18_4 m18) = some mf → RN xs L al (Ev xs L al d) 7 3 [(0, .ref x0), (1, .ref x1), (2, .ref x2), (3, .ref x3), (4, .int y18_4)] [] (m18, S) none (mf, S) := by
    intro n
    induction n with
    | zero => intro y18_4 m18 h; exact absurd h (by simp [f_Ranks_sumUp_L3])
    | succ n3 ih3 =>
      intro y18_4 m18 h
      try dsimp only at h
      rw [f_Ranks_sumUp_L3] at h
      try dsimp only at h
      refine rsn 2 (t := (7, [(0, .ref x0), (1, .ref x1), (2, .ref x2), (3, .ref x3), (4, .int y18_4)], [.int 6, .int y18_4])) rfl ?_
      by_cases c19 : 6 < y18_4
      · rw [if_pos c19] at h
        refine rjt (a := (78, [(0, .ref x0), (1, .ref x1), (2, .ref x2), (3, .ref x3), (4, .int y18_4)], [])) (b := (10, [(0, .ref x0), (1, .ref x1), (2, .ref x2), (3, .ref x3), (4, .int y18_4)], [])) rfl rfl c19 ?_
        exact rsub [] trivial trivial (ex3 y18_4 m18 h)
      · rw [if_neg c19] at h
        refine rjf (a := (78, [(0, .ref x0), (1, .ref x1), (2, .ref x2), (3, .ref x3), (4, .int y18_4)], [])) (b := (10, [(0, .ref x0), (1, .ref x1), (2, .ref x2), (3, .ref x3), (4, .int y18_4)], [])) rfl rfl c19 ?_
        refine rsn 4 (t := (16, [(6, .int 0), (5, .int 0), (0, .ref x0), (1, .ref x1), (2, .ref x2), (3, .ref x3), (4, .int y18_4)], [])) rfl ?_
        have ex16 : ∀ (z26_5 : Int32) (z26_6 : Int32) (m26 : Mm), (ck (ix y18_4 (S.2.2.1 x3)) (f_Ranks_sumUp_L3 N S x0 x1 x2 x3 (fun (z17_4 : Int32) (m17 : Mm) => some m17) n3 ((y18_4 + 1)) ((vX m26 x3 y18_4.toNatClampNeg z26_5)))) = some mf → RN xs L al (Ev xs L al d) 7 66 [(0, .ref x0), (1, .ref x1), (2, .ref x2), (3, .ref x3), (4, .int y18_4), (5, .int z26_5)] [] (m26, S) none (mf, S) := by
          intro z26_5 z26_6 m26 h
          try dsimp only at h
          refine rsn 3 (t := (71, [(0, .ref x0), (1, .ref x1), (2, .ref x2), (3, .ref x3), (4, .int y18_4), (5, .int z26_5)], [.int z26_5, .int y18_4, .ref x3])) rfl ?_
          obtain ⟨c27, h⟩ := ck_some h
          refine psI rfl (hx3 _) rfl c27 ?_
          refine rsn 2 (t := (3, [(4, .int ((y18_4 + 1))), (0, .ref x0), (1, .ref x1), (2, .ref x2), (3, .ref x3), (5, .int z26_5)], [])) rfl ?_
          exact rsub [(0, .ref x0), (1, .ref x1), (2, .ref x2), (3, .ref x3), (4, .int ((y18_4 + 1)))] ⟨rfl, ⟨rfl, ⟨rfl, ⟨rfl, ⟨rfl, trivial⟩⟩⟩⟩⟩ ⟨rfl, ⟨rfl, ⟨rfl, ⟨rfl, ⟨rfl, trivial⟩⟩⟩⟩⟩ (ih3 ((y18_4 + 1)) ((vX m26 x3 y18_4.toNatClampNeg z26_5)) h)
        have lp16 : ∀ (n : Nat) (y28_5 : Int32) (y28_6 : Int32) (m28 : Mm), (f_Ranks_sumUp_L16 N S x0 x1 x2 x3 y18_4 (fun (z26_5 : Int32) (z26_6 : Int32) (m26 : Mm) => ck (ix y18_4 (S.2.2.1 x3)) (f_Ranks_sumUp_L3 N S x0 x1 x2 x3 (fun (z17_4 : Int32) (m17 : Mm) => some m17) n3 ((y18_4 + 1)) ((vX m26 x3 y18_4.toNatClampNeg z26_5)))) n y28_5 y28_6 m28) = some mf → RN xs L al (Ev xs L al d) 7 16 [(0, .ref x0), (1, .ref x1), (2, .ref x2), (3, .ref x3), (4, .int y18_4), (5, .int y28_5), (6, .int y28_6)] [] (m28, S) none (mf, S) := by
          intro n
          induction n with
          | zero => intro y28_5 y28_6 m28 h; exact absurd h (by simp [f_Ranks_sumUp_L16])
          | succ n16 ih16 =>
            intro y28_5 y28_6 m28 h
            try dsimp only at h
            rw [f_Ranks_sumUp_L16] at h
            try dsimp only at h
            refine rsn 2 (t := (21, [(0, .ref x0), (1, .ref x1), (2, .ref x2), (3, .ref x3), (4, .int y18_4), (5, .int y28_5), (6, .int y28_6)], [.int 210, .int y28_6])) rfl ?_
            by_cases c29 : 210 ≤ y28_6
            · rw [if_pos c29] at h
              refine rjt (a := (66, [(0, .ref x0), (1, .ref x1), (2, .ref x2), (3, .ref x3), (4, .int y18_4), (5, .int y28_5), (6, .int y28_6)], [])) (b := (24, [(0, .ref x0), (1, .ref x1), (2, .ref x2), (3, .ref x3), (4, .int y18_4), (5, .int y28_5), (6, .int y28_6)], [])) rfl rfl c29 ?_
              exact rsub [(0, .ref x0), (1, .ref x1), (2, .ref x2), (3, .ref x3), (4, .int y18_4), (5, .int y28_5)] ⟨rfl, ⟨rfl, ⟨rfl, ⟨rfl, ⟨rfl, ⟨rfl, trivial⟩⟩⟩⟩⟩⟩ ⟨rfl, ⟨rfl, ⟨rfl, ⟨rfl, ⟨rfl, ⟨rfl, trivial⟩⟩⟩⟩⟩⟩ (ex16 y28_5 y28_6 m28 h)
            · rw [if_neg c29] at h
              refine rjf (a := (66, [(0, .ref x0), (1, .ref x1), (2, .ref x2), (3, .ref x3), (4, .int y18_4), (5, .int y28_5), (6, .int y28_6)], [])) (b := (24, [(0, .ref x0), (1, .ref x1), (2, .ref x2), (3, .ref x3), (4, .int y18_4), (5, .int y28_5), (6, .int y28_6)], [])) rfl rfl c29 ?_
              refine rsn 2 (t := (27, [(0, .ref x0), (1, .ref x1), (2, .ref x2), (3, .ref x3), (4, .int y18_4), (5, .int y28_5), (6, .int y28_6)], [.int y28_6, .ref x0])) rfl ?_
              obtain ⟨c30, h⟩ := ck_some h
              refine pxI rfl (hx0 _) rfl c30 ?_
              show RN xs L al (Ev xs L al d) 7 28 [(0, .ref x0), (1, .ref x1), (2, .ref x2), (3, .ref x3), (4, .int y18_4), (5, .int y28_5), (6, .int y28_6)] [.int ((mX m28 x0 y28_6.toNatClampNeg))] (m28, S) none (mf, S)
              refine rsn 1 (t := (30, [(0, .ref x0), (1, .ref x1), (2, .ref x2), (3, .ref x3), (4, .int y18_4), (5, .int y28_5), (6, .int y28_6)], [.int y18_4, .int ((mX m28 x0 y28_6.toNatClampNeg))])) rfl ?_
              by_cases c31 : y18_4 < ((mX m28 x0 y28_6.toNatClampNeg))
              · rw [if_pos c31] at h
                refine rjt (a := (66, [(0, .ref x0), (1, .ref x1), (2, .ref x2), (3, .ref x3), (4, .int y18_4), (5, .int y28_5), (6, .int y28_6)], [])) (b := (33, [(0, .ref x0), (1, .ref x1), (2, .ref x2), (3, .ref x3), (4, .int y18_4), (5, .int y28_5), (6, .int y28_6)], [])) rfl rfl c31 ?_
                exact rsub [(0, .ref x0), (1, .ref x1), (2, .ref x2), (3, .ref x3), (4, .int y18_4), (5, .int y28_5)] ⟨rfl, ⟨rfl, ⟨rfl, ⟨rfl, ⟨rfl, ⟨rfl, trivial⟩⟩⟩⟩⟩⟩ ⟨rfl, ⟨rfl, ⟨rfl, ⟨rfl, ⟨rfl, ⟨rfl, trivial⟩⟩⟩⟩⟩⟩ (ex16 y28_5 y28_6 m28 h)
              · rw [if_neg c31] at h
                refine rjf (a := (66, [(0, .ref x0), (1, .ref x1), (2, .ref x2), (3, .ref x3), (4, .int y18_4), (5, .int y28_5), (6, .int y28_6)], [])) (b := (33, [(0, .ref x0), (1, .ref x1), (2, .ref x2), (3, .ref x3), (4, .int y18_4), (5, .int y28_5), (6, .int y28_6)], [])) rfl rfl c31 ?_
                refine rsn 7 (t := (45, [(0, .ref x0), (1, .ref x1), (2, .ref x2), (3, .ref x3), (4, .int y18_4), (5, .int y28_5), (6, .int y28_6)], [.int y28_5, .int ((((y18_4 * 210)) + y28_6)), .ref x2])) rfl ?_
                obtain ⟨c32, h⟩ := ck_some h
                refine psI rfl (hx2 _) rfl c32 ?_
                refine rsn 5 (t := (54, [(0, .ref x0), (1, .ref x1), (2, .ref x2), (3, .ref x3), (4, .int y18_4), (5, .int y28_5), (6, .int y28_6)], [.int y28_6, .ref x0, .int y18_4, .ref x1, .int y28_5])) rfl ?_
                obtain ⟨c33, h⟩ := ck_some h
                refine pxI rfl (hx0 _) rfl c33 ?_
                show RN xs L al (Ev xs L al d) 7 55 [(0, .ref x0), (1, .ref x1), (2, .ref x2), (3, .ref x3), (4, .int y18_4), (5, .int y28_5), (6, .int y28_6)] [.int ((mX (vX m28 x2 (((((y18_4 * 210)) + y28_6)).toNatClampNeg) y28_5) x0 y28_6.toNatClampNeg)), .int y18_4, .ref x1, .int y28_5] ((vX m28 x2 (((((y18_4 * 210)) + y28_6)).toNatClampNeg) y28_5), S) none (mf, S)
                refine rsn 1 (t := (56, [(0, .ref x0), (1, .ref x1), (2, .ref x2), (3, .ref x3), (4, .int y18_4), (5, .int y28_5), (6, .int y28_6)], [.int ((y18_4 - ((mX (vX m28 x2 (((((y18_4 * 210)) + y28_6)).toNatClampNeg) y28_5) x0 y28_6.toNatClampNeg)))), .ref x1, .int y28_5])) rfl ?_
                obtain ⟨c34, h⟩ := ck_some h
                refine pxI rfl (hx1 _) rfl c34 ?_
                show RN xs L al (Ev xs L al d) 7 57 [(0, .ref x0), (1, .ref x1), (2, .ref x2), (3, .ref x3), (4, .int y18_4), (5, .int y28_5), (6, .int y28_6)] [.int ((mX (vX m28 x2 (((((y18_4 * 210)) + y28_6)).toNatClampNeg) y28_5) x1 (((y18_4 - ((mX (vX m28 x2 (((((y18_4 * 210)) + y28_6)).toNatClampNeg) y28_5) x0 y28_6.toNatClampNeg)))).toNatClampNeg))), .int y28_5] ((vX m28 x2 (((((y18_4 * 210)) + y28_6)).toNatClampNeg) y28_5), S) none (mf, S)
                refine rsn 4 (t := (16, [(6, .int ((y28_6 + 1))), (5, .int ((y28_5 + ((mX (vX m28 x2 (((((y18_4 * 210)) + y28_6)).toNatClampNeg) y28_5) x1 (((y18_4 - ((mX (vX m28 x2 (((((y18_4 * 210)) + y28_6)).toNatClampNeg) y28_5) x0 y28_6.toNatClampNeg)))).toNatClampNeg)))))), (0, .ref x0), (1, .ref x1), (2, .ref x2), (3, .ref x3), (4, .int y18_4)], [])) rfl ?_
                exact rsub [(0, .ref x0), (1, .ref x1), (2, .ref x2), (3, .ref x3), (4, .int y18_4), (5, .int ((y28_5 + ((mX (vX m28 x2 (((((y18_4 * 210)) + y28_6)).toNatClampNeg) y28_5) x1 (((y18_4 - ((mX (vX m28 x2 (((((y18_4 * 210)) + y28_6)).toNatClampNeg) y28_5) x0 y28_6.toNatClampNeg)))).toNatClampNeg)))))), (6, .int ((y28_6 + 1)))] ⟨rfl, ⟨rfl, ⟨rfl, ⟨rfl, ⟨rfl, ⟨rfl, ⟨rfl, trivial⟩⟩⟩⟩⟩⟩⟩ ⟨rfl, ⟨rfl, ⟨rfl, ⟨rfl, ⟨rfl, ⟨rfl, ⟨rfl, trivial⟩⟩⟩⟩⟩⟩⟩ (ih16 ((y28_5 + ((mX (vX m28 x2 (((((y18_4 * 210)) + y28_6)).toNatClampNeg) y28_5) x1 (((y18_4 - ((mX (vX m28 x2 (((((y18_4 * 210)) + y28_6)).toNatClampNeg) y28_5) x0 y28_6.toNatClampNeg)))).toNatClampNeg))))) ((y28_6 + 1)) ((vX m28 x2 (((((y18_4 * 210)) + y28_6)).toNatClampNeg) y28_5)) h)
        exact rsub [(0, .ref x0), (1, .ref x1), (2, .ref x2), (3, .ref x3), (4, .int y18_4), (5, .int 0), (6, .int 0)] ⟨rfl, ⟨rfl, ⟨rfl, ⟨rfl, ⟨rfl, ⟨rfl, ⟨rfl, trivial⟩⟩⟩⟩⟩⟩⟩ ⟨rfl, ⟨rfl, ⟨rfl, ⟨rfl, ⟨rfl, ⟨rfl, ⟨rfl, trivial⟩⟩⟩⟩⟩⟩⟩ (lp16 N 0 0 m18 h)
  exact rsub [(0, .ref x0), (1, .ref x1), (2, .ref x2), (3, .ref x3), (4, .int 0)] ⟨rfl, ⟨rfl, ⟨rfl, ⟨rfl, ⟨rfl, trivial⟩⟩⟩⟩⟩ ⟨rfl, ⟨rfl, ⟨rfl, ⟨rfl, ⟨rfl, trivial⟩⟩⟩⟩⟩ (lp3 N 0 m h)
