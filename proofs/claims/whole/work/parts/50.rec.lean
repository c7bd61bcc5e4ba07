/-! Methods that call themselves (printed by wip/whole/gen_cls.py). -/
theorem Rn_C {xs : Nat → Int32} {L : Nat} {al : Bool} {C C' : Cr} (hC : ∀ m2 as w r w', C m2 as w r w' → C' m2 as w r w') {mid : Nat} : ∀ (n : Nat) {pc : Nat} {lv : Lc} {st : List Value} {w : Wd} {r : Option Value} {w' : Wd}, Rn xs L al C mid n pc lv st w r w' → Rn xs L al C' mid n pc lv st w r w'
  | 0, _, _, _, _, _, _, h => h.elim
  | n + 1, _, _, _, _, _, _, h => by
    obtain ⟨ins, len, hcd, ⟨t, h1, h⟩ | ⟨st1, w1, h1, h⟩ | ⟨m2, as, rest, r1, w1, h0, h1, h⟩ | h⟩ := h
    · exact ⟨ins, len, hcd, Or.inl ⟨t, h1, Rn_C hC n h⟩⟩
    · exact ⟨ins, len, hcd, Or.inr (Or.inl ⟨st1, w1, h1, Rn_C hC n h⟩)⟩
    · exact ⟨ins, len, hcd, Or.inr (Or.inr (Or.inl ⟨m2, as, rest, r1, w1, h0, hC _ _ _ _ _ h1, Rn_C hC n h⟩))⟩
    · exact ⟨ins, len, hcd, Or.inr (Or.inr (Or.inr h))⟩
theorem Ev_succ {xs : Nat → Int32} {L : Nat} {al : Bool} : ∀ (d : Nat) {mid : Nat} {as : List Value} {w : Wd} {r : Option Value} {w' : Wd}, Ev xs L al d mid as w r w' → Ev xs L al (d + 1) mid as w r w'
  | 0, _, _, _, _, _, h => h.elim
  | d + 1, _, _, _, _, _, h => by
    obtain ⟨h1, h2, n, h⟩ := h
    exact ⟨h1, h2, n, Rn_C (fun _ _ _ _ _ h => Ev_succ d h) n h⟩
theorem Ev_up {xs : Nat → Int32} {L : Nat} {al : Bool} {d d' mid : Nat} {as : List Value} {w : Wd} {r : Option Value} {w' : Wd} (h : Ev xs L al d mid as w r w') (hd : d ≤ d') : Ev xs L al d' mid as w r w' := by
  induction d' with
  | zero => cases Nat.le_zero.mp hd; exact h
  | succ n ih =>
    rcases Nat.lt_or_ge n d with q | q
    · have : d = n + 1 := by omega
      rw [← this]; exact h
    · exact Ev_succ n (ih q)
def f_Ends_bestHandedOut_L17 (N : Nat) (S : St) (rec : Nat → Int64 → Mm → Option (Int64 × Mm)) (x0 : Nat) (x1 : Int64) (x3 : Int32) (x4 : Int64) (k17 : Int64 → Int32 → Mm → Option (Int64 × Mm)) : Nat → Int64 → Int32 → Mm → Option (Int64 × Mm)
  | 0, _, _, _ => none
  | n17 + 1, x6, x8, m => (if ((mI m 10 0)) ≤ x8 then k17 x6 x8 m else b1 (f_State_isThere N x1 x8) fun r3 => (if r3 = 0 then f_Ends_bestHandedOut_L17 N S rec x0 x1 x3 x4 k17 n17 x6 ((x8 + 1)) m else b1 (f_State_with N x4 x3 x8) fun r5 => b2 (rec x0 r5 m) fun r6 m6 => f_Ends_bestHandedOut_L17 N S rec x0 x1 x3 x4 k17 n17 ((if r6 < x6 then x6 else r6)) ((x8 + 1)) m6))
def fM_Ends_bestHandedOut (N : Nat) (S : St) (rec : Nat → Int64 → Mm → Option (Int64 × Mm)) (x0 : Nat) (x1 : Int64) (x3 : Int32) (m : Mm) : Option (Int64 × Mm) := b1 (f_State_one N x3 3) fun r1 => f_Ends_bestHandedOut_L17 N S rec x0 x1 x3 ((x1 - r1)) (fun (z7_6 : Int64) (z7_8 : Int32) (m7 : Mm) => some (z7_6, m7)) N ((-9223372036854775808)) 0 m
set_option maxRecDepth 20000 in
set_option maxHeartbeats 4000000 in
theorem eM_Ends_bestHandedOut {xs : Nat → Int32} {L : Nat} {al : Bool} (N : Nat) {S : St} {rec : Nat → Int64 → Mm → Option (Int64 × Mm)} {D0 : Nat} (hD : 4 ≤ D0) (hrec : ∀ {x0 : Nat} {x1 : Int64} {m : Mm} {r0 : Int64} {mf : Mm} (hx0 : x0 ∈ eKl), rec x0 x1 m = some (r0, mf) → Ev xs L al D0 80 [.ref x0, .long x1] (m, S) (some (.long r0)) (mf, S)) {d : Nat} (hd : D0 + 1 ≤ d) (hSh : ShC S) {x0 : Nat} {x1 : Int64} {x3 : Int32} (hx0 : x0 ∈ eKl) {m : Mm} {r0 : Int64} {mf : Mm} (h : fM_Ends_bestHandedOut N S rec x0 x1 x3 m = some (r0, mf)) : Ev xs L al d 87 [.ref x0, .long x1, .int x3] (m, S) (some (.long r0)) (mf, S) := by
  obtain ⟨d, rfl⟩ : ∃ e, d = e + 1 := ⟨d - 1, by omega⟩
  refine ev_of (by decide) (Nat.le_of_ble_eq_true rfl) ?_
  rw [fM_Ends_bestHandedOut] at h
  show RN xs L al (Ev xs L al d) 87 0 [(0, .ref x0), (1, .long x1), (3, .int x3)] [] (m, S) (some (.long r0)) (mf, S)
  refine rsn 3 (t := (3, [(0, .ref x0), (1, .long x1), (3, .int x3)], [.int 3, .int x3, .long x1])) rfl ?_
  obtain ⟨r1, g1, h⟩ := b1_some h
  refine rcS 71 [.int x3, .int 3] rfl rfl rfl (Nat.le_of_ble_eq_true rfl) rfl (e_State_one N (by omega) g1) ?_
  show RN xs L al (Ev xs L al d) 87 6 [(0, .ref x0), (1, .long x1), (3, .int x3)] [.long r1, .long x1] (m, S) (some (.long r0)) (mf, S)
  refine rsn 6 (t := (17, [(8, .int 0), (6, .long ((-9223372036854775808))), (4, .long ((x1 - r1))), (0, .ref x0), (1, .long x1), (3, .int x3)], [])) rfl ?_
  have ex17 : ∀ (z7_6 : Int64) (z7_8 : Int32) (m7 : Mm), (some (z7_6, m7)) = some (r0, mf) → RN xs L al (Ev xs L al d) 87 63 [(6, .long z7_6)] [] (m7, S) (some (.long r0)) (mf, S) := by
    intro z7_6 z7_8 m7 h
    try dsimp only at h
    refine rsn 1 (t := (65, [(6, .long z7_6)], [.long z7_6])) rfl ?_
    obtain ⟨h, h2⟩ := Prod.mk.inj (Option.some.inj h)
    subst h
    subst h2
    exact rret rfl ⟨rfl, rfl, _, rfl, rfl, rfl⟩
  have lp17 : ∀ (n : Nat) (y8_6 : Int64) (y8_8 : Int32) (m8 : Mm), (f_Ends_bestHandedOut_L17 N S rec x0 x1 x3 ((x1 - r1)) (fun (z7_6 : Int64) (z7_8 : Int32) (m7 : Mm) => some (z7_6, m7)) n y8_6 y8_8 m8) = some (r0, mf) → RN xs L al (Ev xs L al d) 87 17 [(0, .ref x0), (1, .long x1), (3, .int x3), (4, .long ((x1 - r1))), (6, .long y8_6), (8, .int y8_8)] [] (m8, S) (some (.long r0)) (mf, S) := by
    intro n
    induction n with
    | zero => intro y8_6 y8_8 m8 h; exact absurd h (by simp [f_Ends_bestHandedOut_L17])
    | succ n17 ih17 =>
      intro y8_6 y8_8 m8 h
      try dsimp only at h
      rw [f_Ends_bestHandedOut_L17] at h
      try dsimp only at h
      refine rsn 2 (t := (20, [(0, .ref x0), (1, .long x1), (3, .int x3), (4, .long ((x1 - r1))), (6, .long y8_6), (8, .int y8_8)], [.ref x0, .int y8_8])) rfl ?_
      refine rgR rfl rfl rfl (hSh.kE hx0 _) (hSh.rE1 hx0 _) ?_
      refine pgI rfl rfl rfl (hSh.1.k 10 rfl _) ?_
      show RN xs L al (Ev xs L al d) 87 26 [(0, .ref x0), (1, .long x1), (3, .int x3), (4, .long ((x1 - r1))), (6, .long y8_6), (8, .int y8_8)] [.int ((mI m8 10 0)), .int y8_8] (m8, S) (some (.long r0)) (mf, S)
      by_cases c9 : ((mI m8 10 0)) ≤ y8_8
      · rw [if_pos c9] at h
        refine rjt (a := (63, [(0, .ref x0), (1, .long x1), (3, .int x3), (4, .long ((x1 - r1))), (6, .long y8_6), (8, .int y8_8)], [])) (b := (29, [(0, .ref x0), (1, .long x1), (3, .int x3), (4, .long ((x1 - r1))), (6, .long y8_6), (8, .int y8_8)], [])) rfl rfl c9 ?_
        exact rsub [(6, .long y8_6)] ⟨rfl, trivial⟩ ⟨rfl, trivial⟩ (ex17 y8_6 y8_8 m8 h)
      · rw [if_neg c9] at h
        refine rjf (a := (63, [(0, .ref x0), (1, .long x1), (3, .int x3), (4, .long ((x1 - r1))), (6, .long y8_6), (8, .int y8_8)], [])) (b := (29, [(0, .ref x0), (1, .long x1), (3, .int x3), (4, .long ((x1 - r1))), (6, .long y8_6), (8, .int y8_8)], [])) rfl rfl c9 ?_
        refine rsn 2 (t := (32, [(0, .ref x0), (1, .long x1), (3, .int x3), (4, .long ((x1 - r1))), (6, .long y8_6), (8, .int y8_8)], [.int y8_8, .long x1])) rfl ?_
        obtain ⟨r10, g10, h⟩ := b1_some h
        refine rcS 54 [.long x1, .int y8_8] rfl rfl rfl (Nat.le_of_ble_eq_true rfl) rfl (e_State_isThere N (by omega) g10) ?_
        show RN xs L al (Ev xs L al d) 87 35 [(0, .ref x0), (1, .long x1), (3, .int x3), (4, .long ((x1 - r1))), (6, .long y8_6), (8, .int y8_8)] [.int r10] (m8, S) (some (.long r0)) (mf, S)
        by_cases c11 : r10 = 0
        · rw [if_pos c11] at h
          refine rjt (a := (57, [(0, .ref x0), (1, .long x1), (3, .int x3), (4, .long ((x1 - r1))), (6, .long y8_6), (8, .int y8_8)], [])) (b := (38, [(0, .ref x0), (1, .long x1), (3, .int x3), (4, .long ((x1 - r1))), (6, .long y8_6), (8, .int y8_8)], [])) rfl rfl c11 ?_
          refine rsn 2 (t := (17, [(8, .int ((y8_8 + 1))), (0, .ref x0), (1, .long x1), (3, .int x3), (4, .long ((x1 - r1))), (6, .long y8_6)], [])) rfl ?_
          exact rsub [(0, .ref x0), (1, .long x1), (3, .int x3), (4, .long ((x1 - r1))), (6, .long y8_6), (8, .int ((y8_8 + 1)))] ⟨rfl, ⟨rfl, ⟨rfl, ⟨rfl, ⟨rfl, ⟨rfl, trivial⟩⟩⟩⟩⟩⟩ ⟨rfl, ⟨rfl, ⟨rfl, ⟨rfl, ⟨rfl, ⟨rfl, trivial⟩⟩⟩⟩⟩⟩ (ih17 y8_6 ((y8_8 + 1)) m8 h)
        · rw [if_neg c11] at h
          refine rjf (a := (57, [(0, .ref x0), (1, .long x1), (3, .int x3), (4, .long ((x1 - r1))), (6, .long y8_6), (8, .int y8_8)], [])) (b := (38, [(0, .ref x0), (1, .long x1), (3, .int x3), (4, .long ((x1 - r1))), (6, .long y8_6), (8, .int y8_8)], [])) rfl rfl c11 ?_
          refine rsn 5 (t := (46, [(0, .ref x0), (1, .long x1), (3, .int x3), (4, .long ((x1 - r1))), (6, .long y8_6), (8, .int y8_8)], [.int y8_8, .int x3, .long ((x1 - r1)), .ref x0, .long y8_6])) rfl ?_
          obtain ⟨r12, g12, h⟩ := b1_some h
          refine rcS 70 [.long ((x1 - r1)), .int x3, .int y8_8] rfl rfl rfl (Nat.le_of_ble_eq_true rfl) rfl (e_State_with N (by omega) g12) ?_
          show RN xs L al (Ev xs L al d) 87 49 [(0, .ref x0), (1, .long x1), (3, .int x3), (4, .long ((x1 - r1))), (6, .long y8_6), (8, .int y8_8)] [.long r12, .ref x0, .long y8_6] (m8, S) (some (.long r0)) (mf, S)
          obtain ⟨r13, m13, g13, h⟩ := b2_some h
          refine rcV 80 x0 [.long r12] rfl rfl rfl (hSh.kE hx0 _) (Nat.le_of_ble_eq_true rfl) rfl (Ev_up (hrec hx0 g13) (by omega)) ?_
          show RN xs L al (Ev xs L al d) 87 52 [(0, .ref x0), (1, .long x1), (3, .int x3), (4, .long ((x1 - r1))), (6, .long y8_6), (8, .int y8_8)] [.long r13, .long y8_6] (m13, S) (some (.long r0)) (mf, S)
          refine rm (st1 := [.long ((if r13 < y8_6 then y8_6 else r13))]) rfl ⟨rfl, rfl, 1, [], rfl, Nat.le_of_ble_eq_true rfl, Or.inr (Or.inl ⟨rfl, _, _, rfl, rfl⟩)⟩ ?_
          refine rsn 3 (t := (17, [(8, .int ((y8_8 + 1))), (6, .long ((if r13 < y8_6 then y8_6 else r13))), (0, .ref x0), (1, .long x1), (3, .int x3), (4, .long ((x1 - r1)))], [])) rfl ?_
          exact rsub [(0, .ref x0), (1, .long x1), (3, .int x3), (4, .long ((x1 - r1))), (6, .long ((if r13 < y8_6 then y8_6 else r13))), (8, .int ((y8_8 + 1)))] ⟨rfl, ⟨rfl, ⟨rfl, ⟨rfl, ⟨rfl, ⟨rfl, trivial⟩⟩⟩⟩⟩⟩ ⟨rfl, ⟨rfl, ⟨rfl, ⟨rfl, ⟨rfl, ⟨rfl, trivial⟩⟩⟩⟩⟩⟩ (ih17 ((if r13 < y8_6 then y8_6 else r13)) ((y8_8 + 1)) m13 h)
  exact rsub [(0, .ref x0), (1, .long x1), (3, .int x3), (4, .long ((x1 - r1))), (6, .long ((-9223372036854775808))), (8, .int 0)] ⟨rfl, ⟨rfl, ⟨rfl, ⟨rfl, ⟨rfl, ⟨rfl, trivial⟩⟩⟩⟩⟩⟩ ⟨rfl, ⟨rfl, ⟨rfl, ⟨rfl, ⟨rfl, ⟨rfl, trivial⟩⟩⟩⟩⟩⟩ (lp17 N ((-9223372036854775808)) 0 m h)
def f_Ends_bestMoved_L18 (N : Nat) (S : St) (rec : Nat → Int64 → Mm → Option (Int64 × Mm)) (x0 : Nat) (x1 : Int64) (x3 : Int32) (x4 : Int32) (x5 : Nat) (x6 : Int64) (k18 : Int64 → Int32 → Mm → Option (Int64 × Mm)) : Nat → Int64 → Int32 → Mm → Option (Int64 × Mm)
  | 0, _, _, _ => none
  | n18 + 1, x8, x10, m => (if ((mI m 10 0)) ≤ x10 then k18 x8 x10 m else (if x10 = x4 then f_Ends_bestMoved_L18 N S rec x0 x1 x3 x4 x5 x6 k18 n18 x8 ((x10 + 1)) m else b1 (f_State_isThere N x1 x10) fun r4 => (if r4 = 0 then f_Ends_bestMoved_L18 N S rec x0 x1 x3 x4 x5 x6 k18 n18 x8 ((x10 + 1)) m else b1 (f_State_with N x6 x3 x10) fun r6 => b2 (rec x5 r6 m) fun r7 m7 => f_Ends_bestMoved_L18 N S rec x0 x1 x3 x4 x5 x6 k18 n18 ((if r7 < x8 then x8 else r7)) ((x10 + 1)) m7)))
def fM_Ends_bestMoved (N : Nat) (S : St) (rec : Nat → Int64 → Mm → Option (Int64 × Mm)) (x0 : Nat) (x1 : Int64) (x3 : Int32) (x4 : Int32) (x5 : Nat) (m : Mm) : Option (Int64 × Mm) := b1 (f_State_one N x3 x4) fun r1 => f_Ends_bestMoved_L18 N S rec x0 x1 x3 x4 x5 ((x1 - r1)) (fun (z8_8 : Int64) (z8_10 : Int32) (m8 : Mm) => some (z8_8, m8)) N ((-9223372036854775808)) 0 m
set_option maxRecDepth 20000 in
set_option maxHeartbeats 4000000 in
theorem eM_Ends_bestMoved {xs : Nat → Int32} {L : Nat} {al : Bool} (N : Nat) {S : St} {rec : Nat → Int64 → Mm → Option (Int64 × Mm)} {D0 : Nat} (hD : 4 ≤ D0) (hrec : ∀ {x0 : Nat} {x1 : Int64} {m : Mm} {r0 : Int64} {mf : Mm} (hx0 : x0 ∈ eKl), rec x0 x1 m = some (r0, mf) → Ev xs L al D0 80 [.ref x0, .long x1] (m, S) (some (.long r0)) (mf, S)) {d : Nat} (hd : D0 + 1 ≤ d) (hSh : ShC S) {x0 : Nat} {x1 : Int64} {x3 : Int32} {x4 : Int32} {x5 : Nat} (hx0 : x0 ∈ eKl) (hx5 : x5 ∈ eKl) {m : Mm} {r0 : Int64} {mf : Mm} (h : fM_Ends_bestMoved N S rec x0 x1 x3 x4 x5 m = some (r0, mf)) : Ev xs L al d 89 [.ref x0, .long x1, .int x3, .int x4, .ref x5] (m, S) (some (.long r0)) (mf, S) := by
  obtain ⟨d, rfl⟩ : ∃ e, d = e + 1 := ⟨d - 1, by omega⟩
  refine ev_of (by decide) (Nat.le_of_ble_eq_true rfl) ?_
  rw [fM_Ends_bestMoved] at h
  show RN xs L al (Ev xs L al d) 89 0 [(0, .ref x0), (1, .long x1), (3, .int x3), (4, .int x4), (5, .ref x5)] [] (m, S) (some (.long r0)) (mf, S)
  refine rsn 3 (t := (4, [(0, .ref x0), (1, .long x1), (3, .int x3), (4, .int x4), (5, .ref x5)], [.int x4, .int x3, .long x1])) rfl ?_
  obtain ⟨r1, g1, h⟩ := b1_some h
  refine rcS 71 [.int x3, .int x4] rfl rfl rfl (Nat.le_of_ble_eq_true rfl) rfl (e_State_one N (by omega) g1) ?_
  show RN xs L al (Ev xs L al d) 89 7 [(0, .ref x0), (1, .long x1), (3, .int x3), (4, .int x4), (5, .ref x5)] [.long r1, .long x1] (m, S) (some (.long r0)) (mf, S)
  refine rsn 6 (t := (18, [(10, .int 0), (8, .long ((-9223372036854775808))), (6, .long ((x1 - r1))), (0, .ref x0), (1, .long x1), (3, .int x3), (4, .int x4), (5, .ref x5)], [])) rfl ?_
  have ex18 : ∀ (z8_8 : Int64) (z8_10 : Int32) (m8 : Mm), (some (z8_8, m8)) = some (r0, mf) → RN xs L al (Ev xs L al d) 89 72 [(8, .long z8_8)] [] (m8, S) (some (.long r0)) (mf, S) := by
    intro z8_8 z8_10 m8 h
    try dsimp only at h
    refine rsn 1 (t := (74, [(8, .long z8_8)], [.long z8_8])) rfl ?_
    obtain ⟨h, h2⟩ := Prod.mk.inj (Option.some.inj h)
    subst h
    subst h2
    exact rret rfl ⟨rfl, rfl, _, rfl, rfl, rfl⟩
  have lp18 : ∀ (n : Nat) (y9_8 : Int64) (y9_10 : Int32) (m9 : Mm), (f_Ends_bestMoved_L18 N S rec x0 x1 x3 x4 x5 ((x1 - r1)) (fun (z8_8 : Int64) (z8_10 : Int32) (m8 : Mm) => some (z8_8, m8)) n y9_8 y9_10 m9) = some (r0, mf) → RN xs L al (Ev xs L al d) 89 18 [(0, .ref x0), (1, .long x1), (3, .int x3), (4, .int x4), (5, .ref x5), (6, .long ((x1 - r1))), (8, .long y9_8), (10, .int y9_10)] [] (m9, S) (some (.long r0)) (mf, S) := by
    intro n
    induction n with
    | zero => intro y9_8 y9_10 m9 h; exact absurd h (by simp [f_Ends_bestMoved_L18])
    | succ n18 ih18 =>
      intro y9_8 y9_10 m9 h
      try dsimp only at h
      rw [f_Ends_bestMoved_L18] at h
      try dsimp only at h
      refine rsn 2 (t := (21, [(0, .ref x0), (1, .long x1), (3, .int x3), (4, .int x4), (5, .ref x5), (6, .long ((x1 - r1))), (8, .long y9_8), (10, .int y9_10)], [.ref x0, .int y9_10])) rfl ?_
      refine rgR rfl rfl rfl (hSh.kE hx0 _) (hSh.rE1 hx0 _) ?_
      refine pgI rfl rfl rfl (hSh.1.k 10 rfl _) ?_
      show RN xs L al (Ev xs L al d) 89 27 [(0, .ref x0), (1, .long x1), (3, .int x3), (4, .int x4), (5, .ref x5), (6, .long ((x1 - r1))), (8, .long y9_8), (10, .int y9_10)] [.int ((mI m9 10 0)), .int y9_10] (m9, S) (some (.long r0)) (mf, S)
      by_cases c10 : ((mI m9 10 0)) ≤ y9_10
      · rw [if_pos c10] at h
        refine rjt (a := (72, [(0, .ref x0), (1, .long x1), (3, .int x3), (4, .int x4), (5, .ref x5), (6, .long ((x1 - r1))), (8, .long y9_8), (10, .int y9_10)], [])) (b := (30, [(0, .ref x0), (1, .long x1), (3, .int x3), (4, .int x4), (5, .ref x5), (6, .long ((x1 - r1))), (8, .long y9_8), (10, .int y9_10)], [])) rfl rfl c10 ?_
        exact rsub [(8, .long y9_8)] ⟨rfl, trivial⟩ ⟨rfl, trivial⟩ (ex18 y9_8 y9_10 m9 h)
      · rw [if_neg c10] at h
        refine rjf (a := (72, [(0, .ref x0), (1, .long x1), (3, .int x3), (4, .int x4), (5, .ref x5), (6, .long ((x1 - r1))), (8, .long y9_8), (10, .int y9_10)], [])) (b := (30, [(0, .ref x0), (1, .long x1), (3, .int x3), (4, .int x4), (5, .ref x5), (6, .long ((x1 - r1))), (8, .long y9_8), (10, .int y9_10)], [])) rfl rfl c10 ?_
        refine rsn 2 (t := (34, [(0, .ref x0), (1, .long x1), (3, .int x3), (4, .int x4), (5, .ref x5), (6, .long ((x1 - r1))), (8, .long y9_8), (10, .int y9_10)], [.int x4, .int y9_10])) rfl ?_
        by_cases c11 : y9_10 = x4
        · rw [if_pos c11] at h
          refine rjt (a := (66, [(0, .ref x0), (1, .long x1), (3, .int x3), (4, .int x4), (5, .ref x5), (6, .long ((x1 - r1))), (8, .long y9_8), (10, .int y9_10)], [])) (b := (37, [(0, .ref x0), (1, .long x1), (3, .int x3), (4, .int x4), (5, .ref x5), (6, .long ((x1 - r1))), (8, .long y9_8), (10, .int y9_10)], [])) rfl rfl c11 ?_
          refine rsn 2 (t := (18, [(10, .int ((y9_10 + 1))), (0, .ref x0), (1, .long x1), (3, .int x3), (4, .int x4), (5, .ref x5), (6, .long ((x1 - r1))), (8, .long y9_8)], [])) rfl ?_
          exact rsub [(0, .ref x0), (1, .long x1), (3, .int x3), (4, .int x4), (5, .ref x5), (6, .long ((x1 - r1))), (8, .long y9_8), (10, .int ((y9_10 + 1)))] ⟨rfl, ⟨rfl, ⟨rfl, ⟨rfl, ⟨rfl, ⟨rfl, ⟨rfl, ⟨rfl, trivial⟩⟩⟩⟩⟩⟩⟩⟩ ⟨rfl, ⟨rfl, ⟨rfl, ⟨rfl, ⟨rfl, ⟨rfl, ⟨rfl, ⟨rfl, trivial⟩⟩⟩⟩⟩⟩⟩⟩ (ih18 y9_8 ((y9_10 + 1)) m9 h)
        · rw [if_neg c11] at h
          refine rjf (a := (66, [(0, .ref x0), (1, .long x1), (3, .int x3), (4, .int x4), (5, .ref x5), (6, .long ((x1 - r1))), (8, .long y9_8), (10, .int y9_10)], [])) (b := (37, [(0, .ref x0), (1, .long x1), (3, .int x3), (4, .int x4), (5, .ref x5), (6, .long ((x1 - r1))), (8, .long y9_8), (10, .int y9_10)], [])) rfl rfl c11 ?_
          refine rsn 2 (t := (40, [(0, .ref x0), (1, .long x1), (3, .int x3), (4, .int x4), (5, .ref x5), (6, .long ((x1 - r1))), (8, .long y9_8), (10, .int y9_10)], [.int y9_10, .long x1])) rfl ?_
          obtain ⟨r12, g12, h⟩ := b1_some h
          refine rcS 54 [.long x1, .int y9_10] rfl rfl rfl (Nat.le_of_ble_eq_true rfl) rfl (e_State_isThere N (by omega) g12) ?_
          show RN xs L al (Ev xs L al d) 89 43 [(0, .ref x0), (1, .long x1), (3, .int x3), (4, .int x4), (5, .ref x5), (6, .long ((x1 - r1))), (8, .long y9_8), (10, .int y9_10)] [.int r12] (m9, S) (some (.long r0)) (mf, S)
          by_cases c13 : r12 = 0
          · rw [if_pos c13] at h
            refine rjt (a := (66, [(0, .ref x0), (1, .long x1), (3, .int x3), (4, .int x4), (5, .ref x5), (6, .long ((x1 - r1))), (8, .long y9_8), (10, .int y9_10)], [])) (b := (46, [(0, .ref x0), (1, .long x1), (3, .int x3), (4, .int x4), (5, .ref x5), (6, .long ((x1 - r1))), (8, .long y9_8), (10, .int y9_10)], [])) rfl rfl c13 ?_
            refine rsn 2 (t := (18, [(10, .int ((y9_10 + 1))), (0, .ref x0), (1, .long x1), (3, .int x3), (4, .int x4), (5, .ref x5), (6, .long ((x1 - r1))), (8, .long y9_8)], [])) rfl ?_
            exact rsub [(0, .ref x0), (1, .long x1), (3, .int x3), (4, .int x4), (5, .ref x5), (6, .long ((x1 - r1))), (8, .long y9_8), (10, .int ((y9_10 + 1)))] ⟨rfl, ⟨rfl, ⟨rfl, ⟨rfl, ⟨rfl, ⟨rfl, ⟨rfl, ⟨rfl, trivial⟩⟩⟩⟩⟩⟩⟩⟩ ⟨rfl, ⟨rfl, ⟨rfl, ⟨rfl, ⟨rfl, ⟨rfl, ⟨rfl, ⟨rfl, trivial⟩⟩⟩⟩⟩⟩⟩⟩ (ih18 y9_8 ((y9_10 + 1)) m9 h)
          · rw [if_neg c13] at h
            refine rjf (a := (66, [(0, .ref x0), (1, .long x1), (3, .int x3), (4, .int x4), (5, .ref x5), (6, .long ((x1 - r1))), (8, .long y9_8), (10, .int y9_10)], [])) (b := (46, [(0, .ref x0), (1, .long x1), (3, .int x3), (4, .int x4), (5, .ref x5), (6, .long ((x1 - r1))), (8, .long y9_8), (10, .int y9_10)], [])) rfl rfl c13 ?_
            refine rsn 5 (t := (55, [(0, .ref x0), (1, .long x1), (3, .int x3), (4, .int x4), (5, .ref x5), (6, .long ((x1 - r1))), (8, .long y9_8), (10, .int y9_10)], [.int y9_10, .int x3, .long ((x1 - r1)), .ref x5, .long y9_8])) rfl ?_
            obtain ⟨r14, g14, h⟩ := b1_some h
            refine rcS 70 [.long ((x1 - r1)), .int x3, .int y9_10] rfl rfl rfl (Nat.le_of_ble_eq_true rfl) rfl (e_State_with N (by omega) g14) ?_
            show RN xs L al (Ev xs L al d) 89 58 [(0, .ref x0), (1, .long x1), (3, .int x3), (4, .int x4), (5, .ref x5), (6, .long ((x1 - r1))), (8, .long y9_8), (10, .int y9_10)] [.long r14, .ref x5, .long y9_8] (m9, S) (some (.long r0)) (mf, S)
            obtain ⟨r15, m15, g15, h⟩ := b2_some h
            refine rcV 80 x5 [.long r14] rfl rfl rfl (hSh.kE hx5 _) (Nat.le_of_ble_eq_true rfl) rfl (Ev_up (hrec hx5 g15) (by omega)) ?_
            show RN xs L al (Ev xs L al d) 89 61 [(0, .ref x0), (1, .long x1), (3, .int x3), (4, .int x4), (5, .ref x5), (6, .long ((x1 - r1))), (8, .long y9_8), (10, .int y9_10)] [.long r15, .long y9_8] (m15, S) (some (.long r0)) (mf, S)
            refine rm (st1 := [.long ((if r15 < y9_8 then y9_8 else r15))]) rfl ⟨rfl, rfl, 1, [], rfl, Nat.le_of_ble_eq_true rfl, Or.inr (Or.inl ⟨rfl, _, _, rfl, rfl⟩)⟩ ?_
            refine rsn 3 (t := (18, [(10, .int ((y9_10 + 1))), (8, .long ((if r15 < y9_8 then y9_8 else r15))), (0, .ref x0), (1, .long x1), (3, .int x3), (4, .int x4), (5, .ref x5), (6, .long ((x1 - r1)))], [])) rfl ?_
            exact rsub [(0, .ref x0), (1, .long x1), (3, .int x3), (4, .int x4), (5, .ref x5), (6, .long ((x1 - r1))), (8, .long ((if r15 < y9_8 then y9_8 else r15))), (10, .int ((y9_10 + 1)))] ⟨rfl, ⟨rfl, ⟨rfl, ⟨rfl, ⟨rfl, ⟨rfl, ⟨rfl, ⟨rfl, trivial⟩⟩⟩⟩⟩⟩⟩⟩ ⟨rfl, ⟨rfl, ⟨rfl, ⟨rfl, ⟨rfl, ⟨rfl, ⟨rfl, ⟨rfl, trivial⟩⟩⟩⟩⟩⟩⟩⟩ (ih18 ((if r15 < y9_8 then y9_8 else r15)) ((y9_10 + 1)) m15 h)
  exact rsub [(0, .ref x0), (1, .long x1), (3, .int x3), (4, .int x4), (5, .ref x5), (6, .long ((x1 - r1))), (8, .long ((-9223372036854775808))), (10, .int 0)] ⟨rfl, ⟨rfl, ⟨rfl, ⟨rfl, ⟨rfl, ⟨rfl, ⟨rfl, ⟨rfl, trivial⟩⟩⟩⟩⟩⟩⟩⟩ ⟨rfl, ⟨rfl, ⟨rfl, ⟨rfl, ⟨rfl, ⟨rfl, ⟨rfl, ⟨rfl, trivial⟩⟩⟩⟩⟩⟩⟩⟩ (lp18 N ((-9223372036854775808)) 0 m h)
def f_Ends_bestTakenBack_L19 (N : Nat) (S : St) (rec : Nat → Int64 → Mm → Option (Int64 × Mm)) (x0 : Nat) (x1 : Int64) (x3 : Nat) (x6 : Int32) (k19 : Int64 → Int32 → Mm → Option (Int64 × Mm)) : Nat → Int64 → Int32 → Mm → Option (Int64 × Mm)
  | 0, _, _, _ => none
  | n19 + 1, x4, x7, m => (if ((mI m 10 0)) ≤ x7 then k19 x4 x7 m else b1 (f_State_amount N x1 x6 x7) fun r4 => (if r4 ≤ 0 then f_Ends_bestTakenBack_L19 N S rec x0 x1 x3 x6 k19 n19 x4 ((x7 + 1)) m else b2 (fM_Ends_bestMoved N S rec x0 x1 x6 x7 x3 m) fun r6 m6 => f_Ends_bestTakenBack_L19 N S rec x0 x1 x3 x6 k19 n19 ((if r6 < x4 then x4 else r6)) ((x7 + 1)) m6))
def f_Ends_bestTakenBack_L10 (N : Nat) (S : St) (rec : Nat → Int64 → Mm → Option (Int64 × Mm)) (x0 : Nat) (x1 : Int64) (x3 : Nat) (k10 : Int64 → Int32 → Mm → Option (Int64 × Mm)) : Nat → Int64 → Int32 → Mm → Option (Int64 × Mm)
  | 0, _, _, _ => none
  | n10 + 1, x4, x6, m => (if 3 ≤ x6 then k10 x4 x6 m else f_Ends_bestTakenBack_L19 N S rec x0 x1 x3 x6 (fun (z7_4 : Int64) (z7_7 : Int32) (m7 : Mm) => f_Ends_bestTakenBack_L10 N S rec x0 x1 x3 k10 n10 z7_4 ((x6 + 1)) m7) N x4 0 m)
def fM_Ends_bestTakenBack (N : Nat) (S : St) (rec : Nat → Int64 → Mm → Option (Int64 × Mm)) (x0 : Nat) (x1 : Int64) (x3 : Nat) (m : Mm) : Option (Int64 × Mm) := b2 (rec x3 x1 m) fun r1 m1 => f_Ends_bestTakenBack_L10 N S rec x0 x1 x3 (fun (z13_4 : Int64) (z13_6 : Int32) (m13 : Mm) => some (z13_4, m13)) N r1 0 m1
set_option maxRecDepth 20000 in
set_option maxHeartbeats 4000000 in
theorem eM_Ends_bestTakenBack {xs : Nat → Int32} {L : Nat} {al : Bool} (N : Nat) {S : St} {rec : Nat → Int64 → Mm → Option (Int64 × Mm)} {D0 : Nat} (hD : 4 ≤ D0) (hrec : ∀ {x0 : Nat} {x1 : Int64} {m : Mm} {r0 : Int64} {mf : Mm} (hx0 : x0 ∈ eKl), rec x0 x1 m = some (r0, mf) → Ev xs L al D0 80 [.ref x0, .long x1] (m, S) (some (.long r0)) (mf, S)) {d : Nat} (hd : D0 + 2 ≤ d) (hSh : ShC S) {x0 : Nat} {x1 : Int64} {x3 : Nat} (hx0 : x0 ∈ eKl) (hx3 : x3 ∈ eKl) {m : Mm} {r0 : Int64} {mf : Mm} (h : fM_Ends_bestTakenBack N S rec x0 x1 x3 m = some (r0, mf)) : Ev xs L al d 88 [.ref x0, .long x1, .ref x3] (m, S) (some (.long r0)) (mf, S) := by
  obtain ⟨d, rfl⟩ : ∃ e, d = e + 1 := ⟨d - 1, by omega⟩
  refine ev_of (by decide) (Nat.le_of_ble_eq_true rfl) ?_
  rw [fM_Ends_bestTakenBack] at h
  show RN xs L al (Ev xs L al d) 88 0 [(0, .ref x0), (1, .long x1), (3, .ref x3)] [] (m, S) (some (.long r0)) (mf, S)
  refine rsn 2 (t := (2, [(0, .ref x0), (1, .long x1), (3, .ref x3)], [.long x1, .ref x3])) rfl ?_
  obtain ⟨r1, m1, g1, h⟩ := b2_some h
  refine rcV 80 x3 [.long x1] rfl rfl rfl (hSh.kE hx3 _) (Nat.le_of_ble_eq_true rfl) rfl (Ev_up (hrec hx3 g1) (by omega)) ?_
  show RN xs L al (Ev xs L al d) 88 5 [(0, .ref x0), (1, .long x1), (3, .ref x3)] [.long r1] (m1, S) (some (.long r0)) (mf, S)
  refine rsn 3 (t := (10, [(6, .int 0), (4, .long r1), (0, .ref x0), (1, .long x1), (3, .ref x3)], [])) rfl ?_
  have ex10 : ∀ (z13_4 : Int64) (z13_6 : Int32) (m13 : Mm), (some (z13_4, m13)) = some (r0, mf) → RN xs L al (Ev xs L al d) 88 71 [(4, .long z13_4)] [] (m13, S) (some (.long r0)) (mf, S) := by
    intro z13_4 z13_6 m13 h
    try dsimp only at h
    refine rsn 1 (t := (73, [(4, .long z13_4)], [.long z13_4])) rfl ?_
    obtain ⟨h, h2⟩ := Prod.mk.inj (Option.some.inj h)
    subst h
    subst h2
    exact rret rfl ⟨rfl, rfl, _, rfl, rfl, rfl⟩
  have lp10 : ∀ (n : Nat) (y14_4 : Int64) (y14_6 : Int32) (m14 : Mm), (f_Ends_bestTakenBack_L10 N S rec x0 x1 x3 (fun (z13_4 : Int64) (z13_6 : Int32) (m13 : Mm) => some (z13_4, m13)) n y14_4 y14_6 m14) = some (r0, mf) → RN xs L al (Ev xs L al d) 88 10 [(0, .ref x0), (1, .long x1), (3, .ref x3), (4, .long y14_4), (6, .int y14_6)] [] (m14, S) (some (.long r0)) (mf, S) := by
    intro n
    induction n with
    | zero => intro y14_4 y14_6 m14 h; exact absurd h (by simp [f_Ends_bestTakenBack_L10])
    | succ n10 ih10 =>
      intro y14_4 y14_6 m14 h
      try dsimp only at h
      rw [f_Ends_bestTakenBack_L10] at h
      try dsimp only at h
      refine rsn 2 (t := (13, [(0, .ref x0), (1, .long x1), (3, .ref x3), (4, .long y14_4), (6, .int y14_6)], [.int 3, .int y14_6])) rfl ?_
      by_cases c15 : 3 ≤ y14_6
      · rw [if_pos c15] at h
        refine rjt (a := (71, [(0, .ref x0), (1, .long x1), (3, .ref x3), (4, .long y14_4), (6, .int y14_6)], [])) (b := (16, [(0, .ref x0), (1, .long x1), (3, .ref x3), (4, .long y14_4), (6, .int y14_6)], [])) rfl rfl c15 ?_
        exact rsub [(4, .long y14_4)] ⟨rfl, trivial⟩ ⟨rfl, trivial⟩ (ex10 y14_4 y14_6 m14 h)
      · rw [if_neg c15] at h
        refine rjf (a := (71, [(0, .ref x0), (1, .long x1), (3, .ref x3), (4, .long y14_4), (6, .int y14_6)], [])) (b := (16, [(0, .ref x0), (1, .long x1), (3, .ref x3), (4, .long y14_4), (6, .int y14_6)], [])) rfl rfl c15 ?_
        refine rsn 2 (t := (19, [(7, .int 0), (0, .ref x0), (1, .long x1), (3, .ref x3), (4, .long y14_4), (6, .int y14_6)], [])) rfl ?_
        have ex19 : ∀ (z20_4 : Int64) (z20_7 : Int32) (m20 : Mm), (f_Ends_bestTakenBack_L10 N S rec x0 x1 x3 (fun (z13_4 : Int64) (z13_6 : Int32) (m13 : Mm) => some (z13_4, m13)) n10 z20_4 ((y14_6 + 1)) m20) = some (r0, mf) → RN xs L al (Ev xs L al d) 88 65 [(0, .ref x0), (1, .long x1), (3, .ref x3), (4, .long z20_4), (6, .int y14_6)] [] (m20, S) (some (.long r0)) (mf, S) := by
          intro z20_4 z20_7 m20 h
          try dsimp only at h
          refine rsn 2 (t := (10, [(6, .int ((y14_6 + 1))), (0, .ref x0), (1, .long x1), (3, .ref x3), (4, .long z20_4)], [])) rfl ?_
          exact rsub [(0, .ref x0), (1, .long x1), (3, .ref x3), (4, .long z20_4), (6, .int ((y14_6 + 1)))] ⟨rfl, ⟨rfl, ⟨rfl, ⟨rfl, ⟨rfl, trivial⟩⟩⟩⟩⟩ ⟨rfl, ⟨rfl, ⟨rfl, ⟨rfl, ⟨rfl, trivial⟩⟩⟩⟩⟩ (ih10 z20_4 ((y14_6 + 1)) m20 h)
        have lp19 : ∀ (n : Nat) (y21_4 : Int64) (y21_7 : Int32) (m21 : Mm), (f_Ends_bestTakenBack_L19 N S rec x0 x1 x3 y14_6 (fun (z20_4 : Int64) (z20_7 : Int32) (m20 : Mm) => f_Ends_bestTakenBack_L10 N S rec x0 x1 x3 (fun (z13_4 : Int64) (z13_6 : Int32) (m13 : Mm) => some (z13_4, m13)) n10 z20_4 ((y14_6 + 1)) m20) n y21_4 y21_7 m21) = some (r0, mf) → RN xs L al (Ev xs L al d) 88 19 [(0, .ref x0), (1, .long x1), (3, .ref x3), (4, .long y21_4), (6, .int y14_6), (7, .int y21_7)] [] (m21, S) (some (.long r0)) (mf, S) := by
          intro n
          induction n with
          | zero => intro y21_4 y21_7 m21 h; exact absurd h (by simp [f_Ends_bestTakenBack_L19])
          | succ n19 ih19 =>
            intro y21_4 y21_7 m21 h
            try dsimp only at h
            rw [f_Ends_bestTakenBack_L19] at h
            try dsimp only at h
            refine rsn 2 (t := (22, [(0, .ref x0), (1, .long x1), (3, .ref x3), (4, .long y21_4), (6, .int y14_6), (7, .int y21_7)], [.ref x0, .int y21_7])) rfl ?_
            refine rgR rfl rfl rfl (hSh.kE hx0 _) (hSh.rE1 hx0 _) ?_
            refine pgI rfl rfl rfl (hSh.1.k 10 rfl _) ?_
            show RN xs L al (Ev xs L al d) 88 28 [(0, .ref x0), (1, .long x1), (3, .ref x3), (4, .long y21_4), (6, .int y14_6), (7, .int y21_7)] [.int ((mI m21 10 0)), .int y21_7] (m21, S) (some (.long r0)) (mf, S)
            by_cases c22 : ((mI m21 10 0)) ≤ y21_7
            · rw [if_pos c22] at h
              refine rjt (a := (65, [(0, .ref x0), (1, .long x1), (3, .ref x3), (4, .long y21_4), (6, .int y14_6), (7, .int y21_7)], [])) (b := (31, [(0, .ref x0), (1, .long x1), (3, .ref x3), (4, .long y21_4), (6, .int y14_6), (7, .int y21_7)], [])) rfl rfl c22 ?_
              exact rsub [(0, .ref x0), (1, .long x1), (3, .ref x3), (4, .long y21_4), (6, .int y14_6)] ⟨rfl, ⟨rfl, ⟨rfl, ⟨rfl, ⟨rfl, trivial⟩⟩⟩⟩⟩ ⟨rfl, ⟨rfl, ⟨rfl, ⟨rfl, ⟨rfl, trivial⟩⟩⟩⟩⟩ (ex19 y21_4 y21_7 m21 h)
            · rw [if_neg c22] at h
              refine rjf (a := (65, [(0, .ref x0), (1, .long x1), (3, .ref x3), (4, .long y21_4), (6, .int y14_6), (7, .int y21_7)], [])) (b := (31, [(0, .ref x0), (1, .long x1), (3, .ref x3), (4, .long y21_4), (6, .int y14_6), (7, .int y21_7)], [])) rfl rfl c22 ?_
              refine rsn 3 (t := (36, [(0, .ref x0), (1, .long x1), (3, .ref x3), (4, .long y21_4), (6, .int y14_6), (7, .int y21_7)], [.int y21_7, .int y14_6, .long x1])) rfl ?_
              obtain ⟨r23, g23, h⟩ := b1_some h
              refine rcS 57 [.long x1, .int y14_6, .int y21_7] rfl rfl rfl (Nat.le_of_ble_eq_true rfl) rfl (e_State_amount N (by omega) g23) ?_
              show RN xs L al (Ev xs L al d) 88 39 [(0, .ref x0), (1, .long x1), (3, .ref x3), (4, .long y21_4), (6, .int y14_6), (7, .int y21_7)] [.int r23] (m21, S) (some (.long r0)) (mf, S)
              by_cases c24 : r23 ≤ 0
              · rw [if_pos c24] at h
                refine rjt (a := (59, [(0, .ref x0), (1, .long x1), (3, .ref x3), (4, .long y21_4), (6, .int y14_6), (7, .int y21_7)], [])) (b := (42, [(0, .ref x0), (1, .long x1), (3, .ref x3), (4, .long y21_4), (6, .int y14_6), (7, .int y21_7)], [])) rfl rfl c24 ?_
                refine rsn 2 (t := (19, [(7, .int ((y21_7 + 1))), (0, .ref x0), (1, .long x1), (3, .ref x3), (4, .long y21_4), (6, .int y14_6)], [])) rfl ?_
                exact rsub [(0, .ref x0), (1, .long x1), (3, .ref x3), (4, .long y21_4), (6, .int y14_6), (7, .int ((y21_7 + 1)))] ⟨rfl, ⟨rfl, ⟨rfl, ⟨rfl, ⟨rfl, ⟨rfl, trivial⟩⟩⟩⟩⟩⟩ ⟨rfl, ⟨rfl, ⟨rfl, ⟨rfl, ⟨rfl, ⟨rfl, trivial⟩⟩⟩⟩⟩⟩ (ih19 y21_4 ((y21_7 + 1)) m21 h)
              · rw [if_neg c24] at h
                refine rjf (a := (59, [(0, .ref x0), (1, .long x1), (3, .ref x3), (4, .long y21_4), (6, .int y14_6), (7, .int y21_7)], [])) (b := (42, [(0, .ref x0), (1, .long x1), (3, .ref x3), (4, .long y21_4), (6, .int y14_6), (7, .int y21_7)], [])) rfl rfl c24 ?_
                refine rsn 6 (t := (51, [(0, .ref x0), (1, .long x1), (3, .ref x3), (4, .long y21_4), (6, .int y14_6), (7, .int y21_7)], [.ref x3, .int y21_7, .int y14_6, .long x1, .ref x0, .long y21_4])) rfl ?_
                obtain ⟨r25, m25, g25, h⟩ := b2_some h
                refine rcV 89 x0 [.long x1, .int y14_6, .int y21_7, .ref x3] rfl rfl rfl (hSh.kE hx0 _) (Nat.le_of_ble_eq_true rfl) rfl (eM_Ends_bestMoved N hD hrec (by omega) hSh hx0 hx3 g25) ?_
                show RN xs L al (Ev xs L al d) 88 54 [(0, .ref x0), (1, .long x1), (3, .ref x3), (4, .long y21_4), (6, .int y14_6), (7, .int y21_7)] [.long r25, .long y21_4] (m25, S) (some (.long r0)) (mf, S)
                refine rm (st1 := [.long ((if r25 < y21_4 then y21_4 else r25))]) rfl ⟨rfl, rfl, 1, [], rfl, Nat.le_of_ble_eq_true rfl, Or.inr (Or.inl ⟨rfl, _, _, rfl, rfl⟩)⟩ ?_
                refine rsn 3 (t := (19, [(7, .int ((y21_7 + 1))), (4, .long ((if r25 < y21_4 then y21_4 else r25))), (0, .ref x0), (1, .long x1), (3, .ref x3), (6, .int y14_6)], [])) rfl ?_
                exact rsub [(0, .ref x0), (1, .long x1), (3, .ref x3), (4, .long ((if r25 < y21_4 then y21_4 else r25))), (6, .int y14_6), (7, .int ((y21_7 + 1)))] ⟨rfl, ⟨rfl, ⟨rfl, ⟨rfl, ⟨rfl, ⟨rfl, trivial⟩⟩⟩⟩⟩⟩ ⟨rfl, ⟨rfl, ⟨rfl, ⟨rfl, ⟨rfl, ⟨rfl, trivial⟩⟩⟩⟩⟩⟩ (ih19 ((if r25 < y21_4 then y21_4 else r25)) ((y21_7 + 1)) m25 h)
        exact rsub [(0, .ref x0), (1, .long x1), (3, .ref x3), (4, .long y14_4), (6, .int y14_6), (7, .int 0)] ⟨rfl, ⟨rfl, ⟨rfl, ⟨rfl, ⟨rfl, ⟨rfl, trivial⟩⟩⟩⟩⟩⟩ ⟨rfl, ⟨rfl, ⟨rfl, ⟨rfl, ⟨rfl, ⟨rfl, trivial⟩⟩⟩⟩⟩⟩ (lp19 N y14_4 0 m14 h)
  exact rsub [(0, .ref x0), (1, .long x1), (3, .ref x3), (4, .long r1), (6, .int 0)] ⟨rfl, ⟨rfl, ⟨rfl, ⟨rfl, ⟨rfl, trivial⟩⟩⟩⟩⟩ ⟨rfl, ⟨rfl, ⟨rfl, ⟨rfl, ⟨rfl, trivial⟩⟩⟩⟩⟩ (lp10 N r1 0 m1 h)
def fM_Ends_find (N : Nat) (S : St) (rec : Nat → Int64 → Mm → Option (Int64 × Mm)) (x0 : Nat) (x1 : Int64) (m : Mm) : Option (Int64 × Mm) := b1 (f_State_firstHeld N x1) fun r1 => (if r1 = ((-1)) then bn (S.1 x0 4) ((if ((mI m x0 3)) = 0 then b1 (f_Goals_leastShare N S 10 x1 m) fun r8 => some (r8.toInt64, m) else (if ((mI m x0 3)) = 1 then b1 (f_Goals_mostLeftOut N S 10 x1 m) fun r7 => some (((-r7)).toInt64, m) else b1 (f_Goals_sum N S 10 x1 m) fun r6 => some (r6.toInt64, m)))) (fun t3 => b2 (fM_Ends_bestTakenBack N S rec x0 x1 t3 m) fun r9 m9 => some (r9, m9)) else b2 (fM_Ends_bestHandedOut N S rec x0 x1 r1 m) fun r10 m10 => some (r10, m10))
set_option maxRecDepth 20000 in
set_option maxHeartbeats 4000000 in
theorem eM_Ends_find {xs : Nat → Int32} {L : Nat} {al : Bool} (N : Nat) {S : St} {rec : Nat → Int64 → Mm → Option (Int64 × Mm)} {D0 : Nat} (hD : 4 ≤ D0) (hrec : ∀ {x0 : Nat} {x1 : Int64} {m : Mm} {r0 : Int64} {mf : Mm} (hx0 : x0 ∈ eKl), rec x0 x1 m = some (r0, mf) → Ev xs L al D0 80 [.ref x0, .long x1] (m, S) (some (.long r0)) (mf, S)) {d : Nat} (hd : D0 + 3 ≤ d) (hSh : ShC S) {x0 : Nat} {x1 : Int64} (hx0 : x0 ∈ eKl) {m : Mm} {r0 : Int64} {mf : Mm} (h : fM_Ends_find N S rec x0 x1 m = some (r0, mf)) : Ev xs L al d 85 [.ref x0, .long x1] (m, S) (some (.long r0)) (mf, S) := by
  obtain ⟨d, rfl⟩ : ∃ e, d = e + 1 := ⟨d - 1, by omega⟩
  refine ev_of (by decide) (Nat.le_of_ble_eq_true rfl) ?_
  rw [fM_Ends_find] at h
  show RN xs L al (Ev xs L al d) 85 0 [(0, .ref x0), (1, .long x1)] [] (m, S) (some (.long r0)) (mf, S)
  refine rsn 1 (t := (1, [(0, .ref x0), (1, .long x1)], [.long x1])) rfl ?_
  obtain ⟨r1, g1, h⟩ := b1_some h
  refine rcS 86 [.long x1] rfl rfl rfl (Nat.le_of_ble_eq_true rfl) rfl (e_State_firstHeld N (by omega) g1) ?_
  show RN xs L al (Ev xs L al d) 85 4 [(0, .ref x0), (1, .long x1)] [.int r1] (m, S) (some (.long r0)) (mf, S)
  refine rsn 3 (t := (7, [(3, .int r1), (0, .ref x0), (1, .long x1)], [.int ((-1)), .int r1])) rfl ?_
  by_cases c2 : r1 = ((-1))
  · rw [if_pos c2] at h
    refine rjt (a := (17, [(3, .int r1), (0, .ref x0), (1, .long x1)], [])) (b := (10, [(3, .int r1), (0, .ref x0), (1, .long x1)], [])) rfl rfl c2 ?_
    refine rsn 1 (t := (18, [(3, .int r1), (0, .ref x0), (1, .long x1)], [.ref x0])) rfl ?_
    cases q3 : S.1 x0 4 with
    | none =>
      rw [q3] at h
      try dsimp only [bn] at h
      refine rgN rfl rfl rfl (hSh.kE hx0 _) q3 ?_
      refine rsn 1 (t := (34, [(3, .int r1), (0, .ref x0), (1, .long x1)], [])) rfl ?_
      refine rsn 1 (t := (35, [(3, .int r1), (0, .ref x0), (1, .long x1)], [.ref x0])) rfl ?_
      refine pgI rfl rfl rfl (hSh.kE hx0 _) ?_
      show RN xs L al (Ev xs L al d) 85 38 [(3, .int r1), (0, .ref x0), (1, .long x1)] [.int ((mI m x0 3))] (m, S) (some (.long r0)) (mf, S)
      by_cases c4 : ((mI m x0 3)) = 0
      · rw [if_pos c4] at h
        refine rjf (a := (51, [(3, .int r1), (0, .ref x0), (1, .long x1)], [])) (b := (41, [(3, .int r1), (0, .ref x0), (1, .long x1)], [])) rfl rfl (fun q => q c4) ?_
        refine rsn 1 (t := (42, [(3, .int r1), (0, .ref x0), (1, .long x1)], [.ref x0])) rfl ?_
        refine rgR rfl rfl rfl (hSh.kE hx0 _) (hSh.rE1 hx0 _) ?_
        refine rsn 1 (t := (46, [(3, .int r1), (0, .ref x0), (1, .long x1)], [.long x1, .ref 10])) rfl ?_
        obtain ⟨r8, g8, h⟩ := b1_some h
        refine rcS 90 [.ref 10, .long x1] rfl rfl rfl (Nat.le_of_ble_eq_true rfl) rfl (e_Goals_leastShare N (by omega) hSh (by decide) g8) ?_
        show RN xs L al (Ev xs L al d) 85 49 [(3, .int r1), (0, .ref x0), (1, .long x1)] [.int r8] (m, S) (some (.long r0)) (mf, S)
        refine rsn 1 (t := (50, [(3, .int r1), (0, .ref x0), (1, .long x1)], [.long r8.toInt64])) rfl ?_
        obtain ⟨h, h2⟩ := Prod.mk.inj (Option.some.inj h)
        subst h
        subst h2
        exact rret rfl ⟨rfl, rfl, _, rfl, rfl, rfl⟩
      · rw [if_neg c4] at h
        refine rjt (a := (51, [(3, .int r1), (0, .ref x0), (1, .long x1)], [])) (b := (41, [(3, .int r1), (0, .ref x0), (1, .long x1)], [])) rfl rfl c4 ?_
        refine rsn 1 (t := (52, [(3, .int r1), (0, .ref x0), (1, .long x1)], [.ref x0])) rfl ?_
        refine pgI rfl rfl rfl (hSh.kE hx0 _) ?_
        show RN xs L al (Ev xs L al d) 85 55 [(3, .int r1), (0, .ref x0), (1, .long x1)] [.int ((mI m x0 3))] (m, S) (some (.long r0)) (mf, S)
        refine rsn 1 (t := (56, [(3, .int r1), (0, .ref x0), (1, .long x1)], [.int 1, .int ((mI m x0 3))])) rfl ?_
        by_cases c5 : ((mI m x0 3)) = 1
        · rw [if_pos c5] at h
          refine rjf (a := (72, [(3, .int r1), (0, .ref x0), (1, .long x1)], [])) (b := (59, [(3, .int r1), (0, .ref x0), (1, .long x1)], [])) rfl rfl (fun q => q c5) ?_
          refine rsn 1 (t := (60, [(3, .int r1), (0, .ref x0), (1, .long x1)], [.ref x0])) rfl ?_
          refine rgR rfl rfl rfl (hSh.kE hx0 _) (hSh.rE1 hx0 _) ?_
          refine rsn 1 (t := (64, [(3, .int r1), (0, .ref x0), (1, .long x1)], [.long x1, .ref 10])) rfl ?_
          obtain ⟨r7, g7, h⟩ := b1_some h
          refine rcS 92 [.ref 10, .long x1] rfl rfl rfl (Nat.le_of_ble_eq_true rfl) rfl (e_Goals_mostLeftOut N (by omega) hSh (by decide) g7) ?_
          show RN xs L al (Ev xs L al d) 85 67 [(3, .int r1), (0, .ref x0), (1, .long x1)] [.int r7] (m, S) (some (.long r0)) (mf, S)
          refine rsn 3 (t := (81, [(3, .int r1), (0, .ref x0), (1, .long x1)], [.long (((-r7)).toInt64)])) rfl ?_
          obtain ⟨h, h2⟩ := Prod.mk.inj (Option.some.inj h)
          subst h
          subst h2
          exact rret rfl ⟨rfl, rfl, _, rfl, rfl, rfl⟩
        · rw [if_neg c5] at h
          refine rjt (a := (72, [(3, .int r1), (0, .ref x0), (1, .long x1)], [])) (b := (59, [(3, .int r1), (0, .ref x0), (1, .long x1)], [])) rfl rfl c5 ?_
          refine rsn 1 (t := (73, [(3, .int r1), (0, .ref x0), (1, .long x1)], [.ref x0])) rfl ?_
          refine rgR rfl rfl rfl (hSh.kE hx0 _) (hSh.rE1 hx0 _) ?_
          refine rsn 1 (t := (77, [(3, .int r1), (0, .ref x0), (1, .long x1)], [.long x1, .ref 10])) rfl ?_
          obtain ⟨r6, g6, h⟩ := b1_some h
          refine rcS 94 [.ref 10, .long x1] rfl rfl rfl (Nat.le_of_ble_eq_true rfl) rfl (e_Goals_sum N (by omega) hSh (by decide) g6) ?_
          show RN xs L al (Ev xs L al d) 85 80 [(3, .int r1), (0, .ref x0), (1, .long x1)] [.int r6] (m, S) (some (.long r0)) (mf, S)
          refine rsn 1 (t := (81, [(3, .int r1), (0, .ref x0), (1, .long x1)], [.long r6.toInt64])) rfl ?_
          obtain ⟨h, h2⟩ := Prod.mk.inj (Option.some.inj h)
          subst h
          subst h2
          exact rret rfl ⟨rfl, rfl, _, rfl, rfl, rfl⟩
    | some t3 =>
      rw [q3] at h
      try dsimp only [bn] at h
      refine rgR rfl rfl rfl (hSh.kE hx0 _) q3 ?_
      refine rsn 1 (t := (24, [(3, .int r1), (0, .ref x0), (1, .long x1)], [])) rfl ?_
      refine rsn 3 (t := (27, [(3, .int r1), (0, .ref x0), (1, .long x1)], [.ref x0, .long x1, .ref x0])) rfl ?_
      refine rgR rfl rfl rfl (hSh.kE hx0 _) q3 ?_
      obtain ⟨r9, m9, g9, h⟩ := b2_some h
      refine rcV 88 x0 [.long x1, .ref t3] rfl rfl rfl (hSh.kE hx0 _) (Nat.le_of_ble_eq_true rfl) rfl (eM_Ends_bestTakenBack N hD hrec (by omega) hSh hx0 (hSh.eE hx0 q3) g9) ?_
      show RN xs L al (Ev xs L al d) 85 33 [(3, .int r1), (0, .ref x0), (1, .long x1)] [.long r9] (m9, S) (some (.long r0)) (mf, S)
      obtain ⟨h, h2⟩ := Prod.mk.inj (Option.some.inj h)
      subst h
      subst h2
      exact rret rfl ⟨rfl, rfl, _, rfl, rfl, rfl⟩
  · rw [if_neg c2] at h
    refine rjf (a := (17, [(3, .int r1), (0, .ref x0), (1, .long x1)], [])) (b := (10, [(3, .int r1), (0, .ref x0), (1, .long x1)], [])) rfl rfl c2 ?_
    refine rsn 3 (t := (13, [(3, .int r1), (0, .ref x0), (1, .long x1)], [.int r1, .long x1, .ref x0])) rfl ?_
    obtain ⟨r10, m10, g10, h⟩ := b2_some h
    refine rcV 87 x0 [.long x1, .int r1] rfl rfl rfl (hSh.kE hx0 _) (Nat.le_of_ble_eq_true rfl) rfl (eM_Ends_bestHandedOut N hD hrec (by omega) hSh hx0 g10) ?_
    show RN xs L al (Ev xs L al d) 85 16 [(3, .int r1), (0, .ref x0), (1, .long x1)] [.long r10] (m10, S) (some (.long r0)) (mf, S)
    obtain ⟨h, h2⟩ := Prod.mk.inj (Option.some.inj h)
    subst h
    subst h2
    exact rret rfl ⟨rfl, rfl, _, rfl, rfl, rfl⟩
def fM_Ends_value (N : Nat) (S : St) (rec : Nat → Int64 → Mm → Option (Int64 × Mm)) (x0 : Nat) (x1 : Int64) (m : Mm) : Option (Int64 × Mm) := b1 (f_Ranks_endPlaceOf N S x1 m) fun r1 => b1 (f_Table_at N S ((x0 + 1)) r1 m) fun r2 => (if r2 = ((-9223372036854775808)) then b2 (fM_Ends_find N S rec x0 x1 m) fun r4 m4 => b3 (f_Table_put N S ((x0 + 1)) r1 r4 m4) fun m5 => some (r4, m5) else some (r2, m))
set_option maxRecDepth 20000 in
set_option maxHeartbeats 4000000 in
theorem eM_Ends_value {xs : Nat → Int32} {L : Nat} {al : Bool} (N : Nat) {S : St} {rec : Nat → Int64 → Mm → Option (Int64 × Mm)} {D0 : Nat} (hD : 4 ≤ D0) (hrec : ∀ {x0 : Nat} {x1 : Int64} {m : Mm} {r0 : Int64} {mf : Mm} (hx0 : x0 ∈ eKl), rec x0 x1 m = some (r0, mf) → Ev xs L al D0 80 [.ref x0, .long x1] (m, S) (some (.long r0)) (mf, S)) {d : Nat} (hd : D0 + 4 ≤ d) (hSh : ShC S) {x0 : Nat} {x1 : Int64} (hx0 : x0 ∈ eKl) {m : Mm} {r0 : Int64} {mf : Mm} (h : fM_Ends_value N S rec x0 x1 m = some (r0, mf)) : Ev xs L al d 80 [.ref x0, .long x1] (m, S) (some (.long r0)) (mf, S) := by
  obtain ⟨d, rfl⟩ : ∃ e, d = e + 1 := ⟨d - 1, by omega⟩
  refine ev_of (by decide) (Nat.le_of_ble_eq_true rfl) ?_
  rw [fM_Ends_value] at h
  show RN xs L al (Ev xs L al d) 80 0 [(0, .ref x0), (1, .long x1)] [] (m, S) (some (.long r0)) (mf, S)
  refine rsn 1 (t := (1, [(0, .ref x0), (1, .long x1)], [.ref x0])) rfl ?_
  refine rgR rfl rfl rfl (hSh.kE hx0 _) (hSh.rE2 hx0 _) ?_
  refine rsn 1 (t := (5, [(0, .ref x0), (1, .long x1)], [.long x1, .ref 18])) rfl ?_
  obtain ⟨r1, g1, h⟩ := b1_some h
  refine rcV 81 18 [.long x1] rfl rfl rfl (hSh.1.k 18 rfl _) (Nat.le_of_ble_eq_true rfl) rfl (e_Ranks_endPlaceOf N (by omega) hSh g1) ?_
  show RN xs L al (Ev xs L al d) 80 8 [(0, .ref x0), (1, .long x1)] [.int r1] (m, S) (some (.long r0)) (mf, S)
  refine rsn 2 (t := (10, [(3, .int r1), (0, .ref x0), (1, .long x1)], [.ref x0])) rfl ?_
  refine rgR rfl rfl rfl (hSh.kE hx0 _) (hSh.rE0 hx0 _) ?_
  refine rsn 1 (t := (14, [(3, .int r1), (0, .ref x0), (1, .long x1)], [.int r1, .ref ((x0 + 1))])) rfl ?_
  obtain ⟨r2, g2, h⟩ := b1_some h
  refine rcV 84 ((x0 + 1)) [.int r1] rfl rfl rfl (hSh.kT (eK_t hx0) _) (Nat.le_of_ble_eq_true rfl) rfl (e_Table_at N (by omega) hSh (eK_t hx0) g2) ?_
  show RN xs L al (Ev xs L al d) 80 17 [(3, .int r1), (0, .ref x0), (1, .long x1)] [.long r2] (m, S) (some (.long r0)) (mf, S)
  refine rsn 4 (t := (25, [(4, .long r2), (3, .int r1), (0, .ref x0), (1, .long x1)], [.int ((lg_cmp r2 ((-9223372036854775808))))])) rfl ?_
  by_cases c3 : r2 = ((-9223372036854775808))
  · rw [if_pos c3] at h
    refine rjf (a := (45, [(4, .long r2), (3, .int r1), (0, .ref x0), (1, .long x1)], [])) (b := (28, [(4, .long r2), (3, .int r1), (0, .ref x0), (1, .long x1)], [])) rfl rfl (fun q => q (lgc_eq.mpr c3)) ?_
    refine rsn 2 (t := (30, [(4, .long r2), (3, .int r1), (0, .ref x0), (1, .long x1)], [.long x1, .ref x0])) rfl ?_
    obtain ⟨r4, m4, g4, h⟩ := b2_some h
    refine rcV 85 x0 [.long x1] rfl rfl rfl (hSh.kE hx0 _) (Nat.le_of_ble_eq_true rfl) rfl (eM_Ends_find N hD hrec (by omega) hSh hx0 g4) ?_
    show RN xs L al (Ev xs L al d) 80 33 [(4, .long r2), (3, .int r1), (0, .ref x0), (1, .long x1)] [.long r4] (m4, S) (some (.long r0)) (mf, S)
    refine rsn 2 (t := (36, [(4, .long r4), (3, .int r1), (0, .ref x0), (1, .long x1)], [.ref x0])) rfl ?_
    refine rgR rfl rfl rfl (hSh.kE hx0 _) (hSh.rE0 hx0 _) ?_
    refine rsn 2 (t := (42, [(4, .long r4), (3, .int r1), (0, .ref x0), (1, .long x1)], [.long r4, .int r1, .ref ((x0 + 1))])) rfl ?_
    obtain ⟨m5, g5, h⟩ := b3_some h
    refine rcV 95 ((x0 + 1)) [.int r1, .long r4] rfl rfl rfl (hSh.kT (eK_t hx0) _) (Nat.le_of_ble_eq_true rfl) rfl (e_Table_put N (by omega) hSh (eK_t hx0) g5) ?_
    show RN xs L al (Ev xs L al d) 80 45 [(4, .long r4), (3, .int r1), (0, .ref x0), (1, .long x1)] [] (m5, S) (some (.long r0)) (mf, S)
    refine rsn 1 (t := (47, [(4, .long r4), (3, .int r1), (0, .ref x0), (1, .long x1)], [.long r4])) rfl ?_
    obtain ⟨h, h2⟩ := Prod.mk.inj (Option.some.inj h)
    subst h
    subst h2
    exact rret rfl ⟨rfl, rfl, _, rfl, rfl, rfl⟩
  · rw [if_neg c3] at h
    refine rjt (a := (45, [(4, .long r2), (3, .int r1), (0, .ref x0), (1, .long x1)], [])) (b := (28, [(4, .long r2), (3, .int r1), (0, .ref x0), (1, .long x1)], [])) rfl rfl (fun q => c3 (lgc_eq.mp q)) ?_
    refine rsn 1 (t := (47, [(4, .long r2), (3, .int r1), (0, .ref x0), (1, .long x1)], [.long r2])) rfl ?_
    obtain ⟨h, h2⟩ := Prod.mk.inj (Option.some.inj h)
    subst h
    subst h2
    exact rret rfl ⟨rfl, rfl, _, rfl, rfl, rfl⟩
def fR_Ends_value (N : Nat) (S : St) : Nat → Nat → Int64 → Mm → Option (Int64 × Mm)
  | 0, _, _, _ => none
  | q + 1, x0, x1, m => fM_Ends_value N S (fR_Ends_value N S q) x0 x1 m
theorem eR_Ends_value {xs : Nat → Int32} {L : Nat} {al : Bool} (N : Nat) {S : St} (hSh : ShC S) : ∀ (q : Nat) {d : Nat} (_ : 4 * q + 4 ≤ d) {x0 : Nat} {x1 : Int64} {m : Mm} {r0 : Int64} {mf : Mm} (hx0 : x0 ∈ eKl) (_ : fR_Ends_value N S q x0 x1 m = some (r0, mf)), Ev xs L al d 80 [.ref x0, .long x1] (m, S) (some (.long r0)) (mf, S) := by
  intro q
  induction q with
  | zero => intro d hd x0 x1 m r0 mf hx0 h; exact absurd h (by simp [fR_Ends_value])
  | succ q ih =>
    intro d hd x0 x1 m r0 mf hx0 h
    rw [fR_Ends_value] at h
    exact eM_Ends_value N (D0 := 4 * q + 4) (by omega) (fun hx0 h => ih (Nat.le_refl _) hx0 h) (by omega) hSh hx0 h
def f_Ends_bestHandedOut (N : Nat) (S : St) (x0 : Nat) (x1 : Int64) (x3 : Int32) (m : Mm) : Option (Int64 × Mm) := fM_Ends_bestHandedOut N S (fR_Ends_value N S 8) x0 x1 x3 m
theorem e_Ends_bestHandedOut {xs : Nat → Int32} {L : Nat} {al : Bool} (N : Nat) {d : Nat} (hd : 37 ≤ d) {S : St} (hSh : ShC S) {x0 : Nat} {x1 : Int64} {x3 : Int32} (hx0 : x0 ∈ eKl) {m : Mm} {r0 : Int64} {mf : Mm} (h : f_Ends_bestHandedOut N S x0 x1 x3 m = some (r0, mf)) : Ev xs L al d 87 [.ref x0, .long x1, .int x3] (m, S) (some (.long r0)) (mf, S) := eM_Ends_bestHandedOut N (D0 := 36) (by decide) (fun hx0 h => eR_Ends_value N hSh 8 (Nat.le_refl _) hx0 h) (by omega) hSh hx0 h
def f_Ends_bestMoved (N : Nat) (S : St) (x0 : Nat) (x1 : Int64) (x3 : Int32) (x4 : Int32) (x5 : Nat) (m : Mm) : Option (Int64 × Mm) := fM_Ends_bestMoved N S (fR_Ends_value N S 8) x0 x1 x3 x4 x5 m
theorem e_Ends_bestMoved {xs : Nat → Int32} {L : Nat} {al : Bool} (N : Nat) {d : Nat} (hd : 37 ≤ d) {S : St} (hSh : ShC S) {x0 : Nat} {x1 : Int64} {x3 : Int32} {x4 : Int32} {x5 : Nat} (hx0 : x0 ∈ eKl) (hx5 : x5 ∈ eKl) {m : Mm} {r0 : Int64} {mf : Mm} (h : f_Ends_bestMoved N S x0 x1 x3 x4 x5 m = some (r0, mf)) : Ev xs L al d 89 [.ref x0, .long x1, .int x3, .int x4, .ref x5] (m, S) (some (.long r0)) (mf, S) := eM_Ends_bestMoved N (D0 := 36) (by decide) (fun hx0 h => eR_Ends_value N hSh 8 (Nat.le_refl _) hx0 h) (by omega) hSh hx0 hx5 h
def f_Ends_bestTakenBack (N : Nat) (S : St) (x0 : Nat) (x1 : Int64) (x3 : Nat) (m : Mm) : Option (Int64 × Mm) := fM_Ends_bestTakenBack N S (fR_Ends_value N S 8) x0 x1 x3 m
theorem e_Ends_bestTakenBack {xs : Nat → Int32} {L : Nat} {al : Bool} (N : Nat) {d : Nat} (hd : 38 ≤ d) {S : St} (hSh : ShC S) {x0 : Nat} {x1 : Int64} {x3 : Nat} (hx0 : x0 ∈ eKl) (hx3 : x3 ∈ eKl) {m : Mm} {r0 : Int64} {mf : Mm} (h : f_Ends_bestTakenBack N S x0 x1 x3 m = some (r0, mf)) : Ev xs L al d 88 [.ref x0, .long x1, .ref x3] (m, S) (some (.long r0)) (mf, S) := eM_Ends_bestTakenBack N (D0 := 36) (by decide) (fun hx0 h => eR_Ends_value N hSh 8 (Nat.le_refl _) hx0 h) (by omega) hSh hx0 hx3 h
def f_Ends_find (N : Nat) (S : St) (x0 : Nat) (x1 : Int64) (m : Mm) : Option (Int64 × Mm) := fM_Ends_find N S (fR_Ends_value N S 8) x0 x1 m
theorem e_Ends_find {xs : Nat → Int32} {L : Nat} {al : Bool} (N : Nat) {d : Nat} (hd : 39 ≤ d) {S : St} (hSh : ShC S) {x0 : Nat} {x1 : Int64} (hx0 : x0 ∈ eKl) {m : Mm} {r0 : Int64} {mf : Mm} (h : f_Ends_find N S x0 x1 m = some (r0, mf)) : Ev xs L al d 85 [.ref x0, .long x1] (m, S) (some (.long r0)) (mf, S) := eM_Ends_find N (D0 := 36) (by decide) (fun hx0 h => eR_Ends_value N hSh 8 (Nat.le_refl _) hx0 h) (by omega) hSh hx0 h
def f_Ends_value (N : Nat) (S : St) (x0 : Nat) (x1 : Int64) (m : Mm) : Option (Int64 × Mm) := fR_Ends_value N S 8 x0 x1 m
theorem e_Ends_value {xs : Nat → Int32} {L : Nat} {al : Bool} (N : Nat) {d : Nat} (hd : 40 ≤ d) {S : St} (hSh : ShC S) {x0 : Nat} {x1 : Int64} (hx0 : x0 ∈ eKl) {m : Mm} {r0 : Int64} {mf : Mm} (h : f_Ends_value N S x0 x1 m = some (r0, mf)) : Ev xs L al d 80 [.ref x0, .long x1] (m, S) (some (.long r0)) (mf, S) := eR_Ends_value N hSh 8 (by omega) hx0 h
def f_Sight_given_L8 (N : Nat) (S : St) (rec : Nat → Int64 → Mm → Option (Int64 × Mm)) (x0 : Nat) (x1 : Int64) (x3 : Int32) (k8 : Int64 → Int32 → Mm → Option (Int64 × Mm)) : Nat → Int64 → Int32 → Mm → Option (Int64 × Mm)
  | 0, _, _, _ => none
  | n8 + 1, x4, x6, m => (if 3 < x6 then k8 x4 x6 m else b1 (f_Sight_holdable N S x0 m) fun r2 => b1 (f_Will_mayGive N S 10 x1 x6 r2 m) fun r3 => (if r3 = 0 then f_Sight_given_L8 N S rec x0 x1 x3 k8 n8 x4 ((x6 + 1)) m else b1 (f_State_with N x1 x3 x6) fun r5 => b2 (rec x0 r5 m) fun r6 m6 => f_Sight_given_L8 N S rec x0 x1 x3 k8 n8 ((if r6 < x4 then x4 else r6)) ((x6 + 1)) m6))
def fM_Sight_given (N : Nat) (S : St) (rec : Nat → Int64 → Mm → Option (Int64 × Mm)) (x0 : Nat) (x1 : Int64) (x3 : Int32) (m : Mm) : Option (Int64 × Mm) := f_Sight_given_L8 N S rec x0 x1 x3 (fun (z7_4 : Int64) (z7_6 : Int32) (m7 : Mm) => some (z7_4, m7)) N ((-9223372036854775808)) 0 m
set_option maxRecDepth 20000 in
set_option maxHeartbeats 4000000 in
theorem eM_Sight_given {xs : Nat → Int32} {L : Nat} {al : Bool} (N : Nat) {S : St} {rec : Nat → Int64 → Mm → Option (Int64 × Mm)} {D0 : Nat} (hD : 41 ≤ D0) (hrec : ∀ {x0 : Nat} {x1 : Int64} {m : Mm} {r0 : Int64} {mf : Mm} (hx0 : x0 ∈ sKl), rec x0 x1 m = some (r0, mf) → Ev xs L al D0 101 [.ref x0, .long x1] (m, S) (some (.long r0)) (mf, S)) {d : Nat} (hd : D0 + 1 ≤ d) (hSh : ShC S) {x0 : Nat} {x1 : Int64} {x3 : Int32} (hx0 : x0 ∈ sKl) {m : Mm} {r0 : Int64} {mf : Mm} (h : fM_Sight_given N S rec x0 x1 x3 m = some (r0, mf)) : Ev xs L al d 105 [.ref x0, .long x1, .int x3] (m, S) (some (.long r0)) (mf, S) := by
  obtain ⟨d, rfl⟩ : ∃ e, d = e + 1 := ⟨d - 1, by omega⟩
  refine ev_of (by decide) (Nat.le_of_ble_eq_true rfl) ?_
  rw [fM_Sight_given] at h
  show RN xs L al (Ev xs L al d) 105 0 [(0, .ref x0), (1, .long x1), (3, .int x3)] [] (m, S) (some (.long r0)) (mf, S)
  refine rsn 4 (t := (8, [(6, .int 0), (4, .long ((-9223372036854775808))), (0, .ref x0), (1, .long x1), (3, .int x3)], [])) rfl ?_
  have ex8 : ∀ (z7_4 : Int64) (z7_6 : Int32) (m7 : Mm), (some (z7_4, m7)) = some (r0, mf) → RN xs L al (Ev xs L al d) 105 55 [(4, .long z7_4)] [] (m7, S) (some (.long r0)) (mf, S) := by
    intro z7_4 z7_6 m7 h
    try dsimp only at h
    refine rsn 1 (t := (57, [(4, .long z7_4)], [.long z7_4])) rfl ?_
    obtain ⟨h, h2⟩ := Prod.mk.inj (Option.some.inj h)
    subst h
    subst h2
    exact rret rfl ⟨rfl, rfl, _, rfl, rfl, rfl⟩
  have lp8 : ∀ (n : Nat) (y8_4 : Int64) (y8_6 : Int32) (m8 : Mm), (f_Sight_given_L8 N S rec x0 x1 x3 (fun (z7_4 : Int64) (z7_6 : Int32) (m7 : Mm) => some (z7_4, m7)) n y8_4 y8_6 m8) = some (r0, mf) → RN xs L al (Ev xs L al d) 105 8 [(0, .ref x0), (1, .long x1), (3, .int x3), (4, .long y8_4), (6, .int y8_6)] [] (m8, S) (some (.long r0)) (mf, S) := by
    intro n
    induction n with
    | zero => intro y8_4 y8_6 m8 h; exact absurd h (by simp [f_Sight_given_L8])
    | succ n8 ih8 =>
      intro y8_4 y8_6 m8 h
      try dsimp only at h
      rw [f_Sight_given_L8] at h
      try dsimp only at h
      refine rsn 2 (t := (11, [(0, .ref x0), (1, .long x1), (3, .int x3), (4, .long y8_4), (6, .int y8_6)], [.int 3, .int y8_6])) rfl ?_
      by_cases c9 : 3 < y8_6
      · rw [if_pos c9] at h
        refine rjt (a := (55, [(0, .ref x0), (1, .long x1), (3, .int x3), (4, .long y8_4), (6, .int y8_6)], [])) (b := (14, [(0, .ref x0), (1, .long x1), (3, .int x3), (4, .long y8_4), (6, .int y8_6)], [])) rfl rfl c9 ?_
        exact rsub [(4, .long y8_4)] ⟨rfl, trivial⟩ ⟨rfl, trivial⟩ (ex8 y8_4 y8_6 m8 h)
      · rw [if_neg c9] at h
        refine rjf (a := (55, [(0, .ref x0), (1, .long x1), (3, .int x3), (4, .long y8_4), (6, .int y8_6)], [])) (b := (14, [(0, .ref x0), (1, .long x1), (3, .int x3), (4, .long y8_4), (6, .int y8_6)], [])) rfl rfl c9 ?_
        refine rsn 1 (t := (15, [(0, .ref x0), (1, .long x1), (3, .int x3), (4, .long y8_4), (6, .int y8_6)], [.ref x0])) rfl ?_
        refine rgR rfl rfl rfl (hSh.kS hx0 _) (hSh.rS1 hx0 _) ?_
        refine rsn 3 (t := (22, [(0, .ref x0), (1, .long x1), (3, .int x3), (4, .long y8_4), (6, .int y8_6)], [.ref x0, .int y8_6, .long x1, .ref 10])) rfl ?_
        obtain ⟨r10, g10, h⟩ := b1_some h
        refine rcV 106 x0 [] rfl rfl rfl (hSh.kS hx0 _) (Nat.le_of_ble_eq_true rfl) rfl (e_Sight_holdable N (by omega) hSh hx0 g10) ?_
        show RN xs L al (Ev xs L al d) 105 25 [(0, .ref x0), (1, .long x1), (3, .int x3), (4, .long y8_4), (6, .int y8_6)] [.int r10, .int y8_6, .long x1, .ref 10] (m8, S) (some (.long r0)) (mf, S)
        obtain ⟨r11, g11, h⟩ := b1_some h
        refine rcV 67 10 [.long x1, .int y8_6, .int r10] rfl rfl rfl (hSh.1.k 10 rfl _) (Nat.le_of_ble_eq_true rfl) rfl (e_Will_mayGive N (by omega) hSh (by decide) g11) ?_
        show RN xs L al (Ev xs L al d) 105 28 [(0, .ref x0), (1, .long x1), (3, .int x3), (4, .long y8_4), (6, .int y8_6)] [.int r11] (m8, S) (some (.long r0)) (mf, S)
        by_cases c12 : r11 = 0
        · rw [if_pos c12] at h
          refine rjt (a := (49, [(0, .ref x0), (1, .long x1), (3, .int x3), (4, .long y8_4), (6, .int y8_6)], [])) (b := (31, [(0, .ref x0), (1, .long x1), (3, .int x3), (4, .long y8_4), (6, .int y8_6)], [])) rfl rfl c12 ?_
          refine rsn 2 (t := (8, [(6, .int ((y8_6 + 1))), (0, .ref x0), (1, .long x1), (3, .int x3), (4, .long y8_4)], [])) rfl ?_
          exact rsub [(0, .ref x0), (1, .long x1), (3, .int x3), (4, .long y8_4), (6, .int ((y8_6 + 1)))] ⟨rfl, ⟨rfl, ⟨rfl, ⟨rfl, ⟨rfl, trivial⟩⟩⟩⟩⟩ ⟨rfl, ⟨rfl, ⟨rfl, ⟨rfl, ⟨rfl, trivial⟩⟩⟩⟩⟩ (ih8 y8_4 ((y8_6 + 1)) m8 h)
        · rw [if_neg c12] at h
          refine rjf (a := (49, [(0, .ref x0), (1, .long x1), (3, .int x3), (4, .long y8_4), (6, .int y8_6)], [])) (b := (31, [(0, .ref x0), (1, .long x1), (3, .int x3), (4, .long y8_4), (6, .int y8_6)], [])) rfl rfl c12 ?_
          refine rsn 5 (t := (38, [(0, .ref x0), (1, .long x1), (3, .int x3), (4, .long y8_4), (6, .int y8_6)], [.int y8_6, .int x3, .long x1, .ref x0, .long y8_4])) rfl ?_
          obtain ⟨r13, g13, h⟩ := b1_some h
          refine rcS 70 [.long x1, .int x3, .int y8_6] rfl rfl rfl (Nat.le_of_ble_eq_true rfl) rfl (e_State_with N (by omega) g13) ?_
          show RN xs L al (Ev xs L al d) 105 41 [(0, .ref x0), (1, .long x1), (3, .int x3), (4, .long y8_4), (6, .int y8_6)] [.long r13, .ref x0, .long y8_4] (m8, S) (some (.long r0)) (mf, S)
          obtain ⟨r14, m14, g14, h⟩ := b2_some h
          refine rcV 101 x0 [.long r13] rfl rfl rfl (hSh.kS hx0 _) (Nat.le_of_ble_eq_true rfl) rfl (Ev_up (hrec hx0 g14) (by omega)) ?_
          show RN xs L al (Ev xs L al d) 105 44 [(0, .ref x0), (1, .long x1), (3, .int x3), (4, .long y8_4), (6, .int y8_6)] [.long r14, .long y8_4] (m14, S) (some (.long r0)) (mf, S)
          refine rm (st1 := [.long ((if r14 < y8_4 then y8_4 else r14))]) rfl ⟨rfl, rfl, 1, [], rfl, Nat.le_of_ble_eq_true rfl, Or.inr (Or.inl ⟨rfl, _, _, rfl, rfl⟩)⟩ ?_
          refine rsn 3 (t := (8, [(6, .int ((y8_6 + 1))), (4, .long ((if r14 < y8_4 then y8_4 else r14))), (0, .ref x0), (1, .long x1), (3, .int x3)], [])) rfl ?_
          exact rsub [(0, .ref x0), (1, .long x1), (3, .int x3), (4, .long ((if r14 < y8_4 then y8_4 else r14))), (6, .int ((y8_6 + 1)))] ⟨rfl, ⟨rfl, ⟨rfl, ⟨rfl, ⟨rfl, trivial⟩⟩⟩⟩⟩ ⟨rfl, ⟨rfl, ⟨rfl, ⟨rfl, ⟨rfl, trivial⟩⟩⟩⟩⟩ (ih8 ((if r14 < y8_4 then y8_4 else r14)) ((y8_6 + 1)) m14 h)
  exact rsub [(0, .ref x0), (1, .long x1), (3, .int x3), (4, .long ((-9223372036854775808))), (6, .int 0)] ⟨rfl, ⟨rfl, ⟨rfl, ⟨rfl, ⟨rfl, trivial⟩⟩⟩⟩⟩ ⟨rfl, ⟨rfl, ⟨rfl, ⟨rfl, ⟨rfl, trivial⟩⟩⟩⟩⟩ (lp8 N ((-9223372036854775808)) 0 m h)
def fM_Sight_afterAlt (N : Nat) (S : St) (rec : Nat → Int64 → Mm → Option (Int64 × Mm)) (x0 : Nat) (x1 : Int64) (x3 : Int32) (x4 : Int32) (m : Mm) : Option (Int64 × Mm) := b1 (f_Will_thing N S 10 x3 x4 m) fun r1 => b1 (f_Will_passed N S 10 x1 x3 x4 m) fun r2 => (if r1 = ((-1)) then b2 (rec x0 r2 m) fun r5 m5 => some (r5, m5) else b2 (fM_Sight_given N S rec x0 r2 r1 m) fun r4 m4 => some (r4, m4))
set_option maxRecDepth 20000 in
set_option maxHeartbeats 4000000 in
theorem eM_Sight_afterAlt {xs : Nat → Int32} {L : Nat} {al : Bool} (N : Nat) {S : St} {rec : Nat → Int64 → Mm → Option (Int64 × Mm)} {D0 : Nat} (hD : 41 ≤ D0) (hrec : ∀ {x0 : Nat} {x1 : Int64} {m : Mm} {r0 : Int64} {mf : Mm} (hx0 : x0 ∈ sKl), rec x0 x1 m = some (r0, mf) → Ev xs L al D0 101 [.ref x0, .long x1] (m, S) (some (.long r0)) (mf, S)) {d : Nat} (hd : D0 + 2 ≤ d) (hSh : ShC S) {x0 : Nat} {x1 : Int64} {x3 : Int32} {x4 : Int32} (hx0 : x0 ∈ sKl) {m : Mm} {r0 : Int64} {mf : Mm} (h : fM_Sight_afterAlt N S rec x0 x1 x3 x4 m = some (r0, mf)) : Ev xs L al d 104 [.ref x0, .long x1, .int x3, .int x4] (m, S) (some (.long r0)) (mf, S) := by
  obtain ⟨d, rfl⟩ : ∃ e, d = e + 1 := ⟨d - 1, by omega⟩
  refine ev_of (by decide) (Nat.le_of_ble_eq_true rfl) ?_
  rw [fM_Sight_afterAlt] at h
  show RN xs L al (Ev xs L al d) 104 0 [(0, .ref x0), (1, .long x1), (3, .int x3), (4, .int x4)] [] (m, S) (some (.long r0)) (mf, S)
  refine rsn 1 (t := (1, [(0, .ref x0), (1, .long x1), (3, .int x3), (4, .int x4)], [.ref x0])) rfl ?_
  refine rgR rfl rfl rfl (hSh.kS hx0 _) (hSh.rS1 hx0 _) ?_
  refine rsn 2 (t := (7, [(0, .ref x0), (1, .long x1), (3, .int x3), (4, .int x4)], [.int x4, .int x3, .ref 10])) rfl ?_
  obtain ⟨r1, g1, h⟩ := b1_some h
  refine rcV 64 10 [.int x3, .int x4] rfl rfl rfl (hSh.1.k 10 rfl _) (Nat.le_of_ble_eq_true rfl) rfl (e_Will_thing N (by omega) hSh (by decide) g1) ?_
  show RN xs L al (Ev xs L al d) 104 10 [(0, .ref x0), (1, .long x1), (3, .int x3), (4, .int x4)] [.int r1] (m, S) (some (.long r0)) (mf, S)
  refine rsn 2 (t := (13, [(5, .int r1), (0, .ref x0), (1, .long x1), (3, .int x3), (4, .int x4)], [.ref x0])) rfl ?_
  refine rgR rfl rfl rfl (hSh.kS hx0 _) (hSh.rS1 hx0 _) ?_
  refine rsn 3 (t := (20, [(5, .int r1), (0, .ref x0), (1, .long x1), (3, .int x3), (4, .int x4)], [.int x4, .int x3, .long x1, .ref 10])) rfl ?_
  obtain ⟨r2, g2, h⟩ := b1_some h
  refine rcV 65 10 [.long x1, .int x3, .int x4] rfl rfl rfl (hSh.1.k 10 rfl _) (Nat.le_of_ble_eq_true rfl) rfl (e_Will_passed N (by omega) hSh (by decide) g2) ?_
  show RN xs L al (Ev xs L al d) 104 23 [(5, .int r1), (0, .ref x0), (1, .long x1), (3, .int x3), (4, .int x4)] [.long r2] (m, S) (some (.long r0)) (mf, S)
  refine rsn 3 (t := (28, [(6, .long r2), (5, .int r1), (0, .ref x0), (1, .long x1), (3, .int x3), (4, .int x4)], [.int ((-1)), .int r1])) rfl ?_
  by_cases c3 : r1 = ((-1))
  · rw [if_pos c3] at h
    refine rjf (a := (40, [(6, .long r2), (5, .int r1), (0, .ref x0), (1, .long x1), (3, .int x3), (4, .int x4)], [])) (b := (31, [(6, .long r2), (5, .int r1), (0, .ref x0), (1, .long x1), (3, .int x3), (4, .int x4)], [])) rfl rfl (fun q => q c3) ?_
    refine rsn 2 (t := (34, [(6, .long r2), (5, .int r1), (0, .ref x0), (1, .long x1), (3, .int x3), (4, .int x4)], [.long r2, .ref x0])) rfl ?_
    obtain ⟨r5, m5, g5, h⟩ := b2_some h
    refine rcV 101 x0 [.long r2] rfl rfl rfl (hSh.kS hx0 _) (Nat.le_of_ble_eq_true rfl) rfl (Ev_up (hrec hx0 g5) (by omega)) ?_
    show RN xs L al (Ev xs L al d) 104 37 [(6, .long r2), (5, .int r1), (0, .ref x0), (1, .long x1), (3, .int x3), (4, .int x4)] [.long r5] (m5, S) (some (.long r0)) (mf, S)
    refine rsn 1 (t := (48, [(6, .long r2), (5, .int r1), (0, .ref x0), (1, .long x1), (3, .int x3), (4, .int x4)], [.long r5])) rfl ?_
    obtain ⟨h, h2⟩ := Prod.mk.inj (Option.some.inj h)
    subst h
    subst h2
    exact rret rfl ⟨rfl, rfl, _, rfl, rfl, rfl⟩
  · rw [if_neg c3] at h
    refine rjt (a := (40, [(6, .long r2), (5, .int r1), (0, .ref x0), (1, .long x1), (3, .int x3), (4, .int x4)], [])) (b := (31, [(6, .long r2), (5, .int r1), (0, .ref x0), (1, .long x1), (3, .int x3), (4, .int x4)], [])) rfl rfl c3 ?_
    refine rsn 3 (t := (45, [(6, .long r2), (5, .int r1), (0, .ref x0), (1, .long x1), (3, .int x3), (4, .int x4)], [.int r1, .long r2, .ref x0])) rfl ?_
    obtain ⟨r4, m4, g4, h⟩ := b2_some h
    refine rcV 105 x0 [.long r2, .int r1] rfl rfl rfl (hSh.kS hx0 _) (Nat.le_of_ble_eq_true rfl) rfl (eM_Sight_given N hD hrec (by omega) hSh hx0 g4) ?_
    show RN xs L al (Ev xs L al d) 104 48 [(6, .long r2), (5, .int r1), (0, .ref x0), (1, .long x1), (3, .int x3), (4, .int x4)] [.long r4] (m4, S) (some (.long r0)) (mf, S)
    obtain ⟨h, h2⟩ := Prod.mk.inj (Option.some.inj h)
    subst h
    subst h2
    exact rret rfl ⟨rfl, rfl, _, rfl, rfl, rfl⟩
def f_Sight_weighed_L6 (N : Nat) (S : St) (rec : Nat → Int64 → Mm → Option (Int64 × Mm)) (x0 : Nat) (x1 : Int64) (x3 : Int32) (k6 : Int64 → Int32 → Mm → Option (Int64 × Mm)) : Nat → Int64 → Int32 → Mm → Option (Int64 × Mm)
  | 0, _, _, _ => none
  | n6 + 1, x4, x6, m => b1 (f_Will_alts N S 10 x3 m) fun r1 => (if r1 ≤ x6 then k6 x4 x6 m else b1 (f_Will_chance N S 10 x3 x6 m) fun r3 => b2 (fM_Sight_afterAlt N S rec x0 x1 x3 x6 m) fun r4 m4 => f_Sight_weighed_L6 N S rec x0 x1 x3 k6 n6 ((x4 + ((r3.toInt64 * r4)))) ((x6 + 1)) m4)
def fM_Sight_weighed (N : Nat) (S : St) (rec : Nat → Int64 → Mm → Option (Int64 × Mm)) (x0 : Nat) (x1 : Int64) (x3 : Int32) (m : Mm) : Option (Int64 × Mm) := f_Sight_weighed_L6 N S rec x0 x1 x3 (fun (z5_4 : Int64) (z5_6 : Int32) (m5 : Mm) => some (z5_4, m5)) N 0 0 m
set_option maxRecDepth 20000 in
set_option maxHeartbeats 4000000 in
theorem eM_Sight_weighed {xs : Nat → Int32} {L : Nat} {al : Bool} (N : Nat) {S : St} {rec : Nat → Int64 → Mm → Option (Int64 × Mm)} {D0 : Nat} (hD : 41 ≤ D0) (hrec : ∀ {x0 : Nat} {x1 : Int64} {m : Mm} {r0 : Int64} {mf : Mm} (hx0 : x0 ∈ sKl), rec x0 x1 m = some (r0, mf) → Ev xs L al D0 101 [.ref x0, .long x1] (m, S) (some (.long r0)) (mf, S)) {d : Nat} (hd : D0 + 3 ≤ d) (hSh : ShC S) {x0 : Nat} {x1 : Int64} {x3 : Int32} (hx0 : x0 ∈ sKl) {m : Mm} {r0 : Int64} {mf : Mm} (h : fM_Sight_weighed N S rec x0 x1 x3 m = some (r0, mf)) : Ev xs L al d 103 [.ref x0, .long x1, .int x3] (m, S) (some (.long r0)) (mf, S) := by
  obtain ⟨d, rfl⟩ : ∃ e, d = e + 1 := ⟨d - 1, by omega⟩
  refine ev_of (by decide) (Nat.le_of_ble_eq_true rfl) ?_
  rw [fM_Sight_weighed] at h
  show RN xs L al (Ev xs L al d) 103 0 [(0, .ref x0), (1, .long x1), (3, .int x3)] [] (m, S) (some (.long r0)) (mf, S)
  refine rsn 4 (t := (6, [(6, .int 0), (4, .long 0), (0, .ref x0), (1, .long x1), (3, .int x3)], [])) rfl ?_
  have ex6 : ∀ (z5_4 : Int64) (z5_6 : Int32) (m5 : Mm), (some (z5_4, m5)) = some (r0, mf) → RN xs L al (Ev xs L al d) 103 50 [(4, .long z5_4)] [] (m5, S) (some (.long r0)) (mf, S) := by
    intro z5_4 z5_6 m5 h
    try dsimp only at h
    refine rsn 1 (t := (52, [(4, .long z5_4)], [.long z5_4])) rfl ?_
    obtain ⟨h, h2⟩ := Prod.mk.inj (Option.some.inj h)
    subst h
    subst h2
    exact rret rfl ⟨rfl, rfl, _, rfl, rfl, rfl⟩
  have lp6 : ∀ (n : Nat) (y6_4 : Int64) (y6_6 : Int32) (m6 : Mm), (f_Sight_weighed_L6 N S rec x0 x1 x3 (fun (z5_4 : Int64) (z5_6 : Int32) (m5 : Mm) => some (z5_4, m5)) n y6_4 y6_6 m6) = some (r0, mf) → RN xs L al (Ev xs L al d) 103 6 [(0, .ref x0), (1, .long x1), (3, .int x3), (4, .long y6_4), (6, .int y6_6)] [] (m6, S) (some (.long r0)) (mf, S) := by
    intro n
    induction n with
    | zero => intro y6_4 y6_6 m6 h; exact absurd h (by simp [f_Sight_weighed_L6])
    | succ n6 ih6 =>
      intro y6_4 y6_6 m6 h
      try dsimp only at h
      rw [f_Sight_weighed_L6] at h
      try dsimp only at h
      refine rsn 2 (t := (9, [(0, .ref x0), (1, .long x1), (3, .int x3), (4, .long y6_4), (6, .int y6_6)], [.ref x0, .int y6_6])) rfl ?_
      refine rgR rfl rfl rfl (hSh.kS hx0 _) (hSh.rS1 hx0 _) ?_
      refine rsn 1 (t := (13, [(0, .ref x0), (1, .long x1), (3, .int x3), (4, .long y6_4), (6, .int y6_6)], [.int x3, .ref 10, .int y6_6])) rfl ?_
      obtain ⟨r7, g7, h⟩ := b1_some h
      refine rcV 48 10 [.int x3] rfl rfl rfl (hSh.1.k 10 rfl _) (Nat.le_of_ble_eq_true rfl) rfl (e_Will_alts N (by omega) hSh (by decide) g7) ?_
      show RN xs L al (Ev xs L al d) 103 16 [(0, .ref x0), (1, .long x1), (3, .int x3), (4, .long y6_4), (6, .int y6_6)] [.int r7, .int y6_6] (m6, S) (some (.long r0)) (mf, S)
      by_cases c8 : r7 ≤ y6_6
      · rw [if_pos c8] at h
        refine rjt (a := (50, [(0, .ref x0), (1, .long x1), (3, .int x3), (4, .long y6_4), (6, .int y6_6)], [])) (b := (19, [(0, .ref x0), (1, .long x1), (3, .int x3), (4, .long y6_4), (6, .int y6_6)], [])) rfl rfl c8 ?_
        exact rsub [(4, .long y6_4)] ⟨rfl, trivial⟩ ⟨rfl, trivial⟩ (ex6 y6_4 y6_6 m6 h)
      · rw [if_neg c8] at h
        refine rjf (a := (50, [(0, .ref x0), (1, .long x1), (3, .int x3), (4, .long y6_4), (6, .int y6_6)], [])) (b := (19, [(0, .ref x0), (1, .long x1), (3, .int x3), (4, .long y6_4), (6, .int y6_6)], [])) rfl rfl c8 ?_
        refine rsn 2 (t := (22, [(0, .ref x0), (1, .long x1), (3, .int x3), (4, .long y6_4), (6, .int y6_6)], [.ref x0, .long y6_4])) rfl ?_
        refine rgR rfl rfl rfl (hSh.kS hx0 _) (hSh.rS1 hx0 _) ?_
        refine rsn 2 (t := (28, [(0, .ref x0), (1, .long x1), (3, .int x3), (4, .long y6_4), (6, .int y6_6)], [.int y6_6, .int x3, .ref 10, .long y6_4])) rfl ?_
        obtain ⟨r9, g9, h⟩ := b1_some h
        refine rcV 60 10 [.int x3, .int y6_6] rfl rfl rfl (hSh.1.k 10 rfl _) (Nat.le_of_ble_eq_true rfl) rfl (e_Will_chance N (by omega) hSh (by decide) g9) ?_
        show RN xs L al (Ev xs L al d) 103 31 [(0, .ref x0), (1, .long x1), (3, .int x3), (4, .long y6_4), (6, .int y6_6)] [.int r9, .long y6_4] (m6, S) (some (.long r0)) (mf, S)
        refine rsn 5 (t := (37, [(0, .ref x0), (1, .long x1), (3, .int x3), (4, .long y6_4), (6, .int y6_6)], [.int y6_6, .int x3, .long x1, .ref x0, .long r9.toInt64, .long y6_4])) rfl ?_
        obtain ⟨r10, m10, g10, h⟩ := b2_some h
        refine rcV 104 x0 [.long x1, .int x3, .int y6_6] rfl rfl rfl (hSh.kS hx0 _) (Nat.le_of_ble_eq_true rfl) rfl (eM_Sight_afterAlt N hD hrec (by omega) hSh hx0 g10) ?_
        show RN xs L al (Ev xs L al d) 103 40 [(0, .ref x0), (1, .long x1), (3, .int x3), (4, .long y6_4), (6, .int y6_6)] [.long r10, .long r9.toInt64, .long y6_4] (m10, S) (some (.long r0)) (mf, S)
        refine rsn 5 (t := (6, [(6, .int ((y6_6 + 1))), (4, .long ((y6_4 + ((r9.toInt64 * r10))))), (0, .ref x0), (1, .long x1), (3, .int x3)], [])) rfl ?_
        exact rsub [(0, .ref x0), (1, .long x1), (3, .int x3), (4, .long ((y6_4 + ((r9.toInt64 * r10))))), (6, .int ((y6_6 + 1)))] ⟨rfl, ⟨rfl, ⟨rfl, ⟨rfl, ⟨rfl, trivial⟩⟩⟩⟩⟩ ⟨rfl, ⟨rfl, ⟨rfl, ⟨rfl, ⟨rfl, trivial⟩⟩⟩⟩⟩ (ih6 ((y6_4 + ((r9.toInt64 * r10)))) ((y6_6 + 1)) m10 h)
  exact rsub [(0, .ref x0), (1, .long x1), (3, .int x3), (4, .long 0), (6, .int 0)] ⟨rfl, ⟨rfl, ⟨rfl, ⟨rfl, ⟨rfl, trivial⟩⟩⟩⟩⟩ ⟨rfl, ⟨rfl, ⟨rfl, ⟨rfl, ⟨rfl, trivial⟩⟩⟩⟩⟩ (lp6 N 0 0 m h)
def f_Sight_least_L8 (N : Nat) (S : St) (rec : Nat → Int64 → Mm → Option (Int64 × Mm)) (x0 : Nat) (x1 : Int64) (x3 : Int32) (k8 : Int64 → Int32 → Mm → Option (Int64 × Mm)) : Nat → Int64 → Int32 → Mm → Option (Int64 × Mm)
  | 0, _, _, _ => none
  | n8 + 1, x4, x6, m => b1 (f_Will_alts N S 10 x3 m) fun r1 => (if r1 ≤ x6 then k8 x4 x6 m else b2 (fM_Sight_afterAlt N S rec x0 x1 x3 x6 m) fun r3 m3 => f_Sight_least_L8 N S rec x0 x1 x3 k8 n8 ((if r3 < x4 then r3 else x4)) ((x6 + 1)) m3)
def fM_Sight_least (N : Nat) (S : St) (rec : Nat → Int64 → Mm → Option (Int64 × Mm)) (x0 : Nat) (x1 : Int64) (x3 : Int32) (m : Mm) : Option (Int64 × Mm) := f_Sight_least_L8 N S rec x0 x1 x3 (fun (z4_4 : Int64) (z4_6 : Int32) (m4 : Mm) => some (z4_4, m4)) N 9223372036854775807 0 m
set_option maxRecDepth 20000 in
set_option maxHeartbeats 4000000 in
theorem eM_Sight_least {xs : Nat → Int32} {L : Nat} {al : Bool} (N : Nat) {S : St} {rec : Nat → Int64 → Mm → Option (Int64 × Mm)} {D0 : Nat} (hD : 41 ≤ D0) (hrec : ∀ {x0 : Nat} {x1 : Int64} {m : Mm} {r0 : Int64} {mf : Mm} (hx0 : x0 ∈ sKl), rec x0 x1 m = some (r0, mf) → Ev xs L al D0 101 [.ref x0, .long x1] (m, S) (some (.long r0)) (mf, S)) {d : Nat} (hd : D0 + 3 ≤ d) (hSh : ShC S) {x0 : Nat} {x1 : Int64} {x3 : Int32} (hx0 : x0 ∈ sKl) {m : Mm} {r0 : Int64} {mf : Mm} (h : fM_Sight_least N S rec x0 x1 x3 m = some (r0, mf)) : Ev xs L al d 107 [.ref x0, .long x1, .int x3] (m, S) (some (.long r0)) (mf, S) := by
  obtain ⟨d, rfl⟩ : ∃ e, d = e + 1 := ⟨d - 1, by omega⟩
  refine ev_of (by decide) (Nat.le_of_ble_eq_true rfl) ?_
  rw [fM_Sight_least] at h
  show RN xs L al (Ev xs L al d) 107 0 [(0, .ref x0), (1, .long x1), (3, .int x3)] [] (m, S) (some (.long r0)) (mf, S)
  refine rsn 4 (t := (8, [(6, .int 0), (4, .long 9223372036854775807), (0, .ref x0), (1, .long x1), (3, .int x3)], [])) rfl ?_
  have ex8 : ∀ (z4_4 : Int64) (z4_6 : Int32) (m4 : Mm), (some (z4_4, m4)) = some (r0, mf) → RN xs L al (Ev xs L al d) 107 42 [(4, .long z4_4)] [] (m4, S) (some (.long r0)) (mf, S) := by
    intro z4_4 z4_6 m4 h
    try dsimp only at h
    refine rsn 1 (t := (44, [(4, .long z4_4)], [.long z4_4])) rfl ?_
    obtain ⟨h, h2⟩ := Prod.mk.inj (Option.some.inj h)
    subst h
    subst h2
    exact rret rfl ⟨rfl, rfl, _, rfl, rfl, rfl⟩
  have lp8 : ∀ (n : Nat) (y5_4 : Int64) (y5_6 : Int32) (m5 : Mm), (f_Sight_least_L8 N S rec x0 x1 x3 (fun (z4_4 : Int64) (z4_6 : Int32) (m4 : Mm) => some (z4_4, m4)) n y5_4 y5_6 m5) = some (r0, mf) → RN xs L al (Ev xs L al d) 107 8 [(0, .ref x0), (1, .long x1), (3, .int x3), (4, .long y5_4), (6, .int y5_6)] [] (m5, S) (some (.long r0)) (mf, S) := by
    intro n
    induction n with
    | zero => intro y5_4 y5_6 m5 h; exact absurd h (by simp [f_Sight_least_L8])
    | succ n8 ih8 =>
      intro y5_4 y5_6 m5 h
      try dsimp only at h
      rw [f_Sight_least_L8] at h
      try dsimp only at h
      refine rsn 2 (t := (11, [(0, .ref x0), (1, .long x1), (3, .int x3), (4, .long y5_4), (6, .int y5_6)], [.ref x0, .int y5_6])) rfl ?_
      refine rgR rfl rfl rfl (hSh.kS hx0 _) (hSh.rS1 hx0 _) ?_
      refine rsn 1 (t := (15, [(0, .ref x0), (1, .long x1), (3, .int x3), (4, .long y5_4), (6, .int y5_6)], [.int x3, .ref 10, .int y5_6])) rfl ?_
      obtain ⟨r6, g6, h⟩ := b1_some h
      refine rcV 48 10 [.int x3] rfl rfl rfl (hSh.1.k 10 rfl _) (Nat.le_of_ble_eq_true rfl) rfl (e_Will_alts N (by omega) hSh (by decide) g6) ?_
      show RN xs L al (Ev xs L al d) 107 18 [(0, .ref x0), (1, .long x1), (3, .int x3), (4, .long y5_4), (6, .int y5_6)] [.int r6, .int y5_6] (m5, S) (some (.long r0)) (mf, S)
      by_cases c7 : r6 ≤ y5_6
      · rw [if_pos c7] at h
        refine rjt (a := (42, [(0, .ref x0), (1, .long x1), (3, .int x3), (4, .long y5_4), (6, .int y5_6)], [])) (b := (21, [(0, .ref x0), (1, .long x1), (3, .int x3), (4, .long y5_4), (6, .int y5_6)], [])) rfl rfl c7 ?_
        exact rsub [(4, .long y5_4)] ⟨rfl, trivial⟩ ⟨rfl, trivial⟩ (ex8 y5_4 y5_6 m5 h)
      · rw [if_neg c7] at h
        refine rjf (a := (42, [(0, .ref x0), (1, .long x1), (3, .int x3), (4, .long y5_4), (6, .int y5_6)], [])) (b := (21, [(0, .ref x0), (1, .long x1), (3, .int x3), (4, .long y5_4), (6, .int y5_6)], [])) rfl rfl c7 ?_
        refine rsn 5 (t := (28, [(0, .ref x0), (1, .long x1), (3, .int x3), (4, .long y5_4), (6, .int y5_6)], [.int y5_6, .int x3, .long x1, .ref x0, .long y5_4])) rfl ?_
        obtain ⟨r8, m8, g8, h⟩ := b2_some h
        refine rcV 104 x0 [.long x1, .int x3, .int y5_6] rfl rfl rfl (hSh.kS hx0 _) (Nat.le_of_ble_eq_true rfl) rfl (eM_Sight_afterAlt N hD hrec (by omega) hSh hx0 g8) ?_
        show RN xs L al (Ev xs L al d) 107 31 [(0, .ref x0), (1, .long x1), (3, .int x3), (4, .long y5_4), (6, .int y5_6)] [.long r8, .long y5_4] (m8, S) (some (.long r0)) (mf, S)
        refine rm (st1 := [.long ((if r8 < y5_4 then r8 else y5_4))]) rfl ⟨rfl, rfl, 3, [], rfl, Nat.le_of_ble_eq_true rfl, Or.inr (Or.inr (Or.inr ⟨rfl, _, _, rfl, rfl⟩))⟩ ?_
        refine rsn 3 (t := (8, [(6, .int ((y5_6 + 1))), (4, .long ((if r8 < y5_4 then r8 else y5_4))), (0, .ref x0), (1, .long x1), (3, .int x3)], [])) rfl ?_
        exact rsub [(0, .ref x0), (1, .long x1), (3, .int x3), (4, .long ((if r8 < y5_4 then r8 else y5_4))), (6, .int ((y5_6 + 1)))] ⟨rfl, ⟨rfl, ⟨rfl, ⟨rfl, ⟨rfl, trivial⟩⟩⟩⟩⟩ ⟨rfl, ⟨rfl, ⟨rfl, ⟨rfl, ⟨rfl, trivial⟩⟩⟩⟩⟩ (ih8 ((if r8 < y5_4 then r8 else y5_4)) ((y5_6 + 1)) m8 h)
  exact rsub [(0, .ref x0), (1, .long x1), (3, .int x3), (4, .long 9223372036854775807), (6, .int 0)] ⟨rfl, ⟨rfl, ⟨rfl, ⟨rfl, ⟨rfl, trivial⟩⟩⟩⟩⟩ ⟨rfl, ⟨rfl, ⟨rfl, ⟨rfl, ⟨rfl, trivial⟩⟩⟩⟩⟩ (lp8 N 9223372036854775807 0 m h)
def fM_Sight_worth (N : Nat) (S : St) (rec : Nat → Int64 → Mm → Option (Int64 × Mm)) (x0 : Nat) (x1 : Int64) (m : Mm) : Option (Int64 × Mm) := b1 (f_State_dayOf N x1) fun r1 => (if r1 < ((mI m 10 1)) then b1 (f_Ranks_placeOf N S x1 m) fun r3 => b1 (f_Table_at N S ((x0 + 1)) r3 m) fun r4 => (if r4 = ((-9223372036854775808)) then (jn (fun (s6 : Int64) (m7 : Mm) => b3 (f_Table_put N S ((x0 + 1)) r3 s6 m7) fun m8 => some (s6, m8)) (fun j78 => if ((mI m x0 3)) = 1 then b2 (fM_Sight_weighed N S rec x0 x1 r1 m) fun r11 m11 => j78 r11 m11 else b2 (fM_Sight_least N S rec x0 x1 r1 m) fun r10 m10 => j78 r10 m10)) else some (r4, m)) else b1 (S.1 x0 4) fun t12 => b2 (f_Ends_value N S t12 x1 m) fun r13 m13 => some (r13, m13))
set_option maxRecDepth 20000 in
set_option maxHeartbeats 4000000 in
theorem eM_Sight_worth {xs : Nat → Int32} {L : Nat} {al : Bool} (N : Nat) {S : St} {rec : Nat → Int64 → Mm → Option (Int64 × Mm)} {D0 : Nat} (hD : 41 ≤ D0) (hrec : ∀ {x0 : Nat} {x1 : Int64} {m : Mm} {r0 : Int64} {mf : Mm} (hx0 : x0 ∈ sKl), rec x0 x1 m = some (r0, mf) → Ev xs L al D0 101 [.ref x0, .long x1] (m, S) (some (.long r0)) (mf, S)) {d : Nat} (hd : D0 + 4 ≤ d) (hSh : ShC S) {x0 : Nat} {x1 : Int64} (hx0 : x0 ∈ sKl) {m : Mm} {r0 : Int64} {mf : Mm} (h : fM_Sight_worth N S rec x0 x1 m = some (r0, mf)) : Ev xs L al d 101 [.ref x0, .long x1] (m, S) (some (.long r0)) (mf, S) := by
  obtain ⟨d, rfl⟩ : ∃ e, d = e + 1 := ⟨d - 1, by omega⟩
  refine ev_of (by decide) (Nat.le_of_ble_eq_true rfl) ?_
  rw [fM_Sight_worth] at h
  show RN xs L al (Ev xs L al d) 101 0 [(0, .ref x0), (1, .long x1)] [] (m, S) (some (.long r0)) (mf, S)
  refine rsn 1 (t := (1, [(0, .ref x0), (1, .long x1)], [.long x1])) rfl ?_
  obtain ⟨r1, g1, h⟩ := b1_some h
  refine rcS 63 [.long x1] rfl rfl rfl (Nat.le_of_ble_eq_true rfl) rfl (e_State_dayOf N (by omega) g1) ?_
  show RN xs L al (Ev xs L al d) 101 4 [(0, .ref x0), (1, .long x1)] [.int r1] (m, S) (some (.long r0)) (mf, S)
  refine rsn 3 (t := (7, [(3, .int r1), (0, .ref x0), (1, .long x1)], [.ref x0, .int r1])) rfl ?_
  refine rgR rfl rfl rfl (hSh.kS hx0 _) (hSh.rS1 hx0 _) ?_
  refine pgI rfl rfl rfl (hSh.1.k 10 rfl _) ?_
  show RN xs L al (Ev xs L al d) 101 13 [(3, .int r1), (0, .ref x0), (1, .long x1)] [.int ((mI m 10 1)), .int r1] (m, S) (some (.long r0)) (mf, S)
  by_cases c2 : r1 < ((mI m 10 1))
  · rw [if_pos c2] at h
    refine rjt (a := (25, [(3, .int r1), (0, .ref x0), (1, .long x1)], [])) (b := (16, [(3, .int r1), (0, .ref x0), (1, .long x1)], [])) rfl rfl c2 ?_
    refine rsn 1 (t := (26, [(3, .int r1), (0, .ref x0), (1, .long x1)], [.ref x0])) rfl ?_
    refine rgR rfl rfl rfl (hSh.kS hx0 _) (hSh.rS2 hx0 _) ?_
    refine rsn 1 (t := (30, [(3, .int r1), (0, .ref x0), (1, .long x1)], [.long x1, .ref 18])) rfl ?_
    obtain ⟨r3, g3, h⟩ := b1_some h
    refine rcV 102 18 [.long x1] rfl rfl rfl (hSh.1.k 18 rfl _) (Nat.le_of_ble_eq_true rfl) rfl (e_Ranks_placeOf N (by omega) hSh g3) ?_
    show RN xs L al (Ev xs L al d) 101 33 [(3, .int r1), (0, .ref x0), (1, .long x1)] [.int r3] (m, S) (some (.long r0)) (mf, S)
    refine rsn 2 (t := (36, [(4, .int r3), (3, .int r1), (0, .ref x0), (1, .long x1)], [.ref x0])) rfl ?_
    refine rgR rfl rfl rfl (hSh.kS hx0 _) (hSh.rS0 hx0 _) ?_
    refine rsn 1 (t := (41, [(4, .int r3), (3, .int r1), (0, .ref x0), (1, .long x1)], [.int r3, .ref ((x0 + 1))])) rfl ?_
    obtain ⟨r4, g4, h⟩ := b1_some h
    refine rcV 84 ((x0 + 1)) [.int r3] rfl rfl rfl (hSh.kT (sK_t hx0) _) (Nat.le_of_ble_eq_true rfl) rfl (e_Table_at N (by omega) hSh (sK_t hx0) g4) ?_
    show RN xs L al (Ev xs L al d) 101 44 [(4, .int r3), (3, .int r1), (0, .ref x0), (1, .long x1)] [.long r4] (m, S) (some (.long r0)) (mf, S)
    refine rsn 4 (t := (52, [(5, .long r4), (4, .int r3), (3, .int r1), (0, .ref x0), (1, .long x1)], [.int ((lg_cmp r4 ((-9223372036854775808))))])) rfl ?_
    by_cases c5 : r4 = ((-9223372036854775808))
    · rw [if_pos c5] at h
      refine rjf (a := (91, [(5, .long r4), (4, .int r3), (3, .int r1), (0, .ref x0), (1, .long x1)], [])) (b := (55, [(5, .long r4), (4, .int r3), (3, .int r1), (0, .ref x0), (1, .long x1)], [])) rfl rfl (fun q => q (lgc_eq.mpr c5)) ?_
      refine rsn 1 (t := (56, [(5, .long r4), (4, .int r3), (3, .int r1), (0, .ref x0), (1, .long x1)], [.ref x0])) rfl ?_
      refine pgI rfl rfl rfl (hSh.kS hx0 _) ?_
      show RN xs L al (Ev xs L al d) 101 59 [(5, .long r4), (4, .int r3), (3, .int r1), (0, .ref x0), (1, .long x1)] [.int ((mI m x0 3))] (m, S) (some (.long r0)) (mf, S)
      refine rsn 1 (t := (60, [(5, .long r4), (4, .int r3), (3, .int r1), (0, .ref x0), (1, .long x1)], [.int 1, .int ((mI m x0 3))])) rfl ?_
      have jp78 : ∀ (s6 : Int64) (m7 : Mm), (b3 (f_Table_put N S ((x0 + 1)) r3 s6 m7) fun m8 => some (s6, m8)) = some (r0, mf) → RN xs L al (Ev xs L al d) 101 78 [(0, .ref x0), (4, .int r3)] [.long s6] (m7, S) (some (.long r0)) (mf, S) := by
        intro s6 m7 h
        try dsimp only at h
        refine rsn 2 (t := (81, [(5, .long s6), (0, .ref x0), (4, .int r3)], [.ref x0])) rfl ?_
        refine rgR rfl rfl rfl (hSh.kS hx0 _) (hSh.rS0 hx0 _) ?_
        refine rsn 2 (t := (88, [(5, .long s6), (0, .ref x0), (4, .int r3)], [.long s6, .int r3, .ref ((x0 + 1))])) rfl ?_
        obtain ⟨m8, g8, h⟩ := b3_some h
        refine rcV 95 ((x0 + 1)) [.int r3, .long s6] rfl rfl rfl (hSh.kT (sK_t hx0) _) (Nat.le_of_ble_eq_true rfl) rfl (e_Table_put N (by omega) hSh (sK_t hx0) g8) ?_
        show RN xs L al (Ev xs L al d) 101 91 [(5, .long s6), (0, .ref x0), (4, .int r3)] [] (m8, S) (some (.long r0)) (mf, S)
        refine rsn 1 (t := (93, [(5, .long s6), (0, .ref x0), (4, .int r3)], [.long s6])) rfl ?_
        obtain ⟨h, h2⟩ := Prod.mk.inj (Option.some.inj h)
        subst h
        subst h2
        exact rret rfl ⟨rfl, rfl, _, rfl, rfl, rfl⟩
      rw [jn] at h
      try dsimp only at h
      by_cases c9 : ((mI m x0 3)) = 1
      · rw [if_pos c9] at h
        refine rjf (a := (72, [(5, .long r4), (4, .int r3), (3, .int r1), (0, .ref x0), (1, .long x1)], [])) (b := (63, [(5, .long r4), (4, .int r3), (3, .int r1), (0, .ref x0), (1, .long x1)], [])) rfl rfl (fun q => q c9) ?_
        refine rsn 3 (t := (66, [(5, .long r4), (4, .int r3), (3, .int r1), (0, .ref x0), (1, .long x1)], [.int r1, .long x1, .ref x0])) rfl ?_
        obtain ⟨r11, m11, g11, h⟩ := b2_some h
        refine rcV 103 x0 [.long x1, .int r1] rfl rfl rfl (hSh.kS hx0 _) (Nat.le_of_ble_eq_true rfl) rfl (eM_Sight_weighed N hD hrec (by omega) hSh hx0 g11) ?_
        show RN xs L al (Ev xs L al d) 101 69 [(5, .long r4), (4, .int r3), (3, .int r1), (0, .ref x0), (1, .long x1)] [.long r11] (m11, S) (some (.long r0)) (mf, S)
        refine rsn 1 (t := (78, [(5, .long r4), (4, .int r3), (3, .int r1), (0, .ref x0), (1, .long x1)], [.long r11])) rfl ?_
        exact rsub [(0, .ref x0), (4, .int r3)] ⟨rfl, ⟨rfl, trivial⟩⟩ ⟨rfl, ⟨rfl, trivial⟩⟩ (jp78 r11 m11 h)
      · rw [if_neg c9] at h
        refine rjt (a := (72, [(5, .long r4), (4, .int r3), (3, .int r1), (0, .ref x0), (1, .long x1)], [])) (b := (63, [(5, .long r4), (4, .int r3), (3, .int r1), (0, .ref x0), (1, .long x1)], [])) rfl rfl c9 ?_
        refine rsn 3 (t := (75, [(5, .long r4), (4, .int r3), (3, .int r1), (0, .ref x0), (1, .long x1)], [.int r1, .long x1, .ref x0])) rfl ?_
        obtain ⟨r10, m10, g10, h⟩ := b2_some h
        refine rcV 107 x0 [.long x1, .int r1] rfl rfl rfl (hSh.kS hx0 _) (Nat.le_of_ble_eq_true rfl) rfl (eM_Sight_least N hD hrec (by omega) hSh hx0 g10) ?_
        show RN xs L al (Ev xs L al d) 101 78 [(5, .long r4), (4, .int r3), (3, .int r1), (0, .ref x0), (1, .long x1)] [.long r10] (m10, S) (some (.long r0)) (mf, S)
        exact rsub [(0, .ref x0), (4, .int r3)] ⟨rfl, ⟨rfl, trivial⟩⟩ ⟨rfl, ⟨rfl, trivial⟩⟩ (jp78 r10 m10 h)
    · rw [if_neg c5] at h
      refine rjt (a := (91, [(5, .long r4), (4, .int r3), (3, .int r1), (0, .ref x0), (1, .long x1)], [])) (b := (55, [(5, .long r4), (4, .int r3), (3, .int r1), (0, .ref x0), (1, .long x1)], [])) rfl rfl (fun q => c5 (lgc_eq.mp q)) ?_
      refine rsn 1 (t := (93, [(5, .long r4), (4, .int r3), (3, .int r1), (0, .ref x0), (1, .long x1)], [.long r4])) rfl ?_
      obtain ⟨h, h2⟩ := Prod.mk.inj (Option.some.inj h)
      subst h
      subst h2
      exact rret rfl ⟨rfl, rfl, _, rfl, rfl, rfl⟩
  · rw [if_neg c2] at h
    refine rjf (a := (25, [(3, .int r1), (0, .ref x0), (1, .long x1)], [])) (b := (16, [(3, .int r1), (0, .ref x0), (1, .long x1)], [])) rfl rfl c2 ?_
    refine rsn 1 (t := (17, [(3, .int r1), (0, .ref x0), (1, .long x1)], [.ref x0])) rfl ?_
    obtain ⟨t12, g12, h⟩ := b1_some h
    refine rgR rfl rfl rfl (hSh.kS hx0 _) g12 ?_
    refine rsn 1 (t := (21, [(3, .int r1), (0, .ref x0), (1, .long x1)], [.long x1, .ref t12])) rfl ?_
    obtain ⟨r13, m13, g13, h⟩ := b2_some h
    refine rcV 80 t12 [.long x1] rfl rfl rfl (hSh.kE (hSh.sE hx0 g12) _) (Nat.le_of_ble_eq_true rfl) rfl (e_Ends_value N (by omega) hSh (hSh.sE hx0 g12) g13) ?_
    show RN xs L al (Ev xs L al d) 101 24 [(3, .int r1), (0, .ref x0), (1, .long x1)] [.long r13] (m13, S) (some (.long r0)) (mf, S)
    obtain ⟨h, h2⟩ := Prod.mk.inj (Option.some.inj h)
    subst h
    subst h2
    exact rret rfl ⟨rfl, rfl, _, rfl, rfl, rfl⟩
def fR_Sight_worth (N : Nat) (S : St) : Nat → Nat → Int64 → Mm → Option (Int64 × Mm)
  | 0, _, _, _ => none
  | q + 1, x0, x1, m => fM_Sight_worth N S (fR_Sight_worth N S q) x0 x1 m
theorem eR_Sight_worth {xs : Nat → Int32} {L : Nat} {al : Bool} (N : Nat) {S : St} (hSh : ShC S) : ∀ (q : Nat) {d : Nat} (_ : 4 * q + 41 ≤ d) {x0 : Nat} {x1 : Int64} {m : Mm} {r0 : Int64} {mf : Mm} (hx0 : x0 ∈ sKl) (_ : fR_Sight_worth N S q x0 x1 m = some (r0, mf)), Ev xs L al d 101 [.ref x0, .long x1] (m, S) (some (.long r0)) (mf, S) := by
  intro q
  induction q with
  | zero => intro d hd x0 x1 m r0 mf hx0 h; exact absurd h (by simp [fR_Sight_worth])
  | succ q ih =>
    intro d hd x0 x1 m r0 mf hx0 h
    rw [fR_Sight_worth] at h
    exact eM_Sight_worth N (D0 := 4 * q + 41) (by omega) (fun hx0 h => ih (Nat.le_refl _) hx0 h) (by omega) hSh hx0 h
def f_Sight_given (N : Nat) (S : St) (x0 : Nat) (x1 : Int64) (x3 : Int32) (m : Mm) : Option (Int64 × Mm) := fM_Sight_given N S (fR_Sight_worth N S 8) x0 x1 x3 m
theorem e_Sight_given {xs : Nat → Int32} {L : Nat} {al : Bool} (N : Nat) {d : Nat} (hd : 74 ≤ d) {S : St} (hSh : ShC S) {x0 : Nat} {x1 : Int64} {x3 : Int32} (hx0 : x0 ∈ sKl) {m : Mm} {r0 : Int64} {mf : Mm} (h : f_Sight_given N S x0 x1 x3 m = some (r0, mf)) : Ev xs L al d 105 [.ref x0, .long x1, .int x3] (m, S) (some (.long r0)) (mf, S) := eM_Sight_given N (D0 := 73) (by decide) (fun hx0 h => eR_Sight_worth N hSh 8 (Nat.le_refl _) hx0 h) (by omega) hSh hx0 h
def f_Sight_afterAlt (N : Nat) (S : St) (x0 : Nat) (x1 : Int64) (x3 : Int32) (x4 : Int32) (m : Mm) : Option (Int64 × Mm) := fM_Sight_afterAlt N S (fR_Sight_worth N S 8) x0 x1 x3 x4 m
theorem e_Sight_afterAlt {xs : Nat → Int32} {L : Nat} {al : Bool} (N : Nat) {d : Nat} (hd : 75 ≤ d) {S : St} (hSh : ShC S) {x0 : Nat} {x1 : Int64} {x3 : Int32} {x4 : Int32} (hx0 : x0 ∈ sKl) {m : Mm} {r0 : Int64} {mf : Mm} (h : f_Sight_afterAlt N S x0 x1 x3 x4 m = some (r0, mf)) : Ev xs L al d 104 [.ref x0, .long x1, .int x3, .int x4] (m, S) (some (.long r0)) (mf, S) := eM_Sight_afterAlt N (D0 := 73) (by decide) (fun hx0 h => eR_Sight_worth N hSh 8 (Nat.le_refl _) hx0 h) (by omega) hSh hx0 h
def f_Sight_weighed (N : Nat) (S : St) (x0 : Nat) (x1 : Int64) (x3 : Int32) (m : Mm) : Option (Int64 × Mm) := fM_Sight_weighed N S (fR_Sight_worth N S 8) x0 x1 x3 m
theorem e_Sight_weighed {xs : Nat → Int32} {L : Nat} {al : Bool} (N : Nat) {d : Nat} (hd : 76 ≤ d) {S : St} (hSh : ShC S) {x0 : Nat} {x1 : Int64} {x3 : Int32} (hx0 : x0 ∈ sKl) {m : Mm} {r0 : Int64} {mf : Mm} (h : f_Sight_weighed N S x0 x1 x3 m = some (r0, mf)) : Ev xs L al d 103 [.ref x0, .long x1, .int x3] (m, S) (some (.long r0)) (mf, S) := eM_Sight_weighed N (D0 := 73) (by decide) (fun hx0 h => eR_Sight_worth N hSh 8 (Nat.le_refl _) hx0 h) (by omega) hSh hx0 h
def f_Sight_least (N : Nat) (S : St) (x0 : Nat) (x1 : Int64) (x3 : Int32) (m : Mm) : Option (Int64 × Mm) := fM_Sight_least N S (fR_Sight_worth N S 8) x0 x1 x3 m
theorem e_Sight_least {xs : Nat → Int32} {L : Nat} {al : Bool} (N : Nat) {d : Nat} (hd : 76 ≤ d) {S : St} (hSh : ShC S) {x0 : Nat} {x1 : Int64} {x3 : Int32} (hx0 : x0 ∈ sKl) {m : Mm} {r0 : Int64} {mf : Mm} (h : f_Sight_least N S x0 x1 x3 m = some (r0, mf)) : Ev xs L al d 107 [.ref x0, .long x1, .int x3] (m, S) (some (.long r0)) (mf, S) := eM_Sight_least N (D0 := 73) (by decide) (fun hx0 h => eR_Sight_worth N hSh 8 (Nat.le_refl _) hx0 h) (by omega) hSh hx0 h
def f_Sight_worth (N : Nat) (S : St) (x0 : Nat) (x1 : Int64) (m : Mm) : Option (Int64 × Mm) := fR_Sight_worth N S 8 x0 x1 m
theorem e_Sight_worth {xs : Nat → Int32} {L : Nat} {al : Bool} (N : Nat) {d : Nat} (hd : 77 ≤ d) {S : St} (hSh : ShC S) {x0 : Nat} {x1 : Int64} (hx0 : x0 ∈ sKl) {m : Mm} {r0 : Int64} {mf : Mm} (h : f_Sight_worth N S x0 x1 m = some (r0, mf)) : Ev xs L al d 101 [.ref x0, .long x1] (m, S) (some (.long r0)) (mf, S) := eR_Sight_worth N hSh 8 (by omega) hx0 h
def f_Rows_spread_L4 (N : Nat) (S : St) (rec : Int64 → Int64 → Int32 → Int32 → Nat → Mm → Option (Int64 × Mm)) (x1 : Int64) (x3 : Int64) (x5 : Int32) (x6 : Int32) (x7 : Nat) (m : Mm) (k4 : Int32 → Option (Int64 × Mm)) : Nat → Int32 → Option (Int64 × Mm)
  | 0, _ => none
  | n4 + 1, x8 => (if 12 ≤ x8 then k4 x8 else (if ((((lus x3 ((3 * x8)))) &&& 7)) = 0 then f_Rows_spread_L4 N S rec x1 x3 x5 x6 x7 m k4 n4 ((x8 + 1)) else k4 x8))
def f_Rows_spread_L95 (N : Nat) (S : St) (rec : Int64 → Int64 → Int32 → Int32 → Nat → Mm → Option (Int64 × Mm)) (x1 : Int64) (x7 : Nat) (x8 : Int32) (x9 : Int32) (x10 : Int32) (x11 : Int64) (k95 : Int64 → Int32 → Mm → Option (Int64 × Mm)) : Nat → Int64 → Int32 → Mm → Option (Int64 × Mm)
  | 0, _, _, _ => none
  | n95 + 1, x13, x15, m => (if 3 < x15 then k95 x13 x15 m else (jn (fun (_ : Unit) => b1 (f_State_with N x1 x9 x15) fun r8 => b2 (rec r8 x11 x8 x15 x7 m) fun r9 m9 => f_Rows_spread_L95 N S rec x1 x7 x8 x9 x10 x11 k95 n95 ((if r9 < x13 then x13 else r9)) ((x15 + 1)) m9) (fun j135 => if x15 = 3 then b1 (f_State_heldOf N x1) fun r12 => (if ((mI m 10 2)) ≤ r12 then f_Rows_spread_L95 N S rec x1 x7 x8 x9 x10 x11 k95 n95 x13 ((x15 + 1)) m else j135 ()) else (if ((((isr x10 x15)) &&& 1)) = 1 then j135 () else f_Rows_spread_L95 N S rec x1 x7 x8 x9 x10 x11 k95 n95 x13 ((x15 + 1)) m))))
def fM_Rows_spread (N : Nat) (S : St) (rec : Int64 → Int64 → Int32 → Int32 → Nat → Mm → Option (Int64 × Mm)) (x1 : Int64) (x3 : Int64) (x5 : Int32) (x6 : Int32) (x7 : Nat) (m : Mm) : Option (Int64 × Mm) := f_Rows_spread_L4 N S rec x1 x3 x5 x6 x7 m (fun (z3_8 : Int32) => (if z3_8 < 12 then b1 (f_Ranks_cameWith N S ((irm z3_8 4)) m) fun r5 => (jn (fun (s6 : Int32) => f_Rows_spread_L95 N S rec x1 x7 z3_8 ((z3_8 / 4)) r5 ((x3 - ((lsl 1 ((3 * z3_8)))))) (fun (z14_13 : Int64) (z14_15 : Int32) (m14 : Mm) => some (z14_13, m14)) N ((-9223372036854775808)) s6 m) (fun j93 => if z3_8 = x5 then j93 x6 else j93 0)) else b2 (f_Ends_value N S x7 x1 m) fun r24 m24 => some (r24, m24))) N x5
set_option maxRecDepth 20000 in
set_option maxHeartbeats 4000000 in
theorem eM_Rows_spread {xs : Nat → Int32} {L : Nat} {al : Bool} (N : Nat) {S : St} {rec : Int64 → Int64 → Int32 → Int32 → Nat → Mm → Option (Int64 × Mm)} {D0 : Nat} (hD : 41 ≤ D0) (hrec : ∀ {x1 : Int64} {x3 : Int64} {x5 : Int32} {x6 : Int32} {x7 : Nat} {m : Mm} {r0 : Int64} {mf : Mm} (hx7 : x7 ∈ eKl), rec x1 x3 x5 x6 x7 m = some (r0, mf) → Ev xs L al D0 120 [.ref 30, .long x1, .long x3, .int x5, .int x6, .ref x7] (m, S) (some (.long r0)) (mf, S)) {d : Nat} (hd : D0 + 1 ≤ d) (hSh : ShC S) {x1 : Int64} {x3 : Int64} {x5 : Int32} {x6 : Int32} {x7 : Nat} (hx7 : x7 ∈ eKl) {m : Mm} {r0 : Int64} {mf : Mm} (h : fM_Rows_spread N S rec x1 x3 x5 x6 x7 m = some (r0, mf)) : Ev xs L al d 120 [.ref 30, .long x1, .long x3, .int x5, .int x6, .ref x7] (m, S) (some (.long r0)) (mf, S) := by
  obtain ⟨d, rfl⟩ : ∃ e, d = e + 1 := ⟨d - 1, by omega⟩
  refine ev_of (by decide) (Nat.le_of_ble_eq_true rfl) ?_
  rw [fM_Rows_spread] at h
  show RN xs L al (Ev xs L al d) 120 0 [(0, .ref 30), (1, .long x1), (3, .long x3), (5, .int x5), (6, .int x6), (7, .ref x7)] [] (m, S) (some (.long r0)) (mf, S)
  refine rsn 2 (t := (4, [(8, .int x5), (0, .ref 30), (1, .long x1), (3, .long x3), (5, .int x5), (6, .int x6), (7, .ref x7)], [])) rfl ?_
  have ex4 : ∀ (z3_8 : Int32), ((if z3_8 < 12 then b1 (f_Ranks_cameWith N S ((irm z3_8 4)) m) fun r5 => (jn (fun (s6 : Int32) => f_Rows_spread_L95 N S rec x1 x7 z3_8 ((z3_8 / 4)) r5 ((x3 - ((lsl 1 ((3 * z3_8)))))) (fun (z14_13 : Int64) (z14_15 : Int32) (m14 : Mm) => some (z14_13, m14)) N ((-9223372036854775808)) s6 m) (fun j93 => if z3_8 = x5 then j93 x6 else j93 0)) else b2 (f_Ends_value N S x7 x1 m) fun r24 m24 => some (r24, m24))) = some (r0, mf) → RN xs L al (Ev xs L al d) 120 32 [(0, .ref 30), (1, .long x1), (3, .long x3), (5, .int x5), (6, .int x6), (7, .ref x7), (8, .int z3_8)] [] (m, S) (some (.long r0)) (mf, S) := by
    intro z3_8 h
    try dsimp only at h
    refine rsn 2 (t := (36, [(0, .ref 30), (1, .long x1), (3, .long x3), (5, .int x5), (6, .int x6), (7, .ref x7), (8, .int z3_8)], [.int 12, .int z3_8])) rfl ?_
    by_cases c4 : z3_8 < 12
    · rw [if_pos c4] at h
      refine rjt (a := (46, [(0, .ref 30), (1, .long x1), (3, .long x3), (5, .int x5), (6, .int x6), (7, .ref x7), (8, .int z3_8)], [])) (b := (39, [(0, .ref 30), (1, .long x1), (3, .long x3), (5, .int x5), (6, .int x6), (7, .ref x7), (8, .int z3_8)], [])) rfl rfl c4 ?_
      refine rsn 2 (t := (49, [(0, .ref 30), (1, .long x1), (3, .long x3), (5, .int x5), (6, .int x6), (7, .ref x7), (8, .int z3_8)], [.int 4, .int z3_8])) rfl ?_
      refine rsn 1 (t := (50, [(0, .ref 30), (1, .long x1), (3, .long x3), (5, .int x5), (6, .int x6), (7, .ref x7), (8, .int z3_8)], [.int ((z3_8 / 4))])) rfl ?_
      refine rsn 2 (t := (53, [(9, .int ((z3_8 / 4))), (0, .ref 30), (1, .long x1), (3, .long x3), (5, .int x5), (6, .int x6), (7, .ref x7), (8, .int z3_8)], [.ref 30])) rfl ?_
      refine rgR rfl rfl rfl (hSh.1.k 30 rfl _) (hSh.1.r 101 rfl _) ?_
      refine rsn 2 (t := (59, [(9, .int ((z3_8 / 4))), (0, .ref 30), (1, .long x1), (3, .long x3), (5, .int x5), (6, .int x6), (7, .ref x7), (8, .int z3_8)], [.int 4, .int z3_8, .ref 18])) rfl ?_
      refine rsn 1 (t := (60, [(9, .int ((z3_8 / 4))), (0, .ref 30), (1, .long x1), (3, .long x3), (5, .int x5), (6, .int x6), (7, .ref x7), (8, .int z3_8)], [.int ((irm z3_8 4)), .ref 18])) rfl ?_
      obtain ⟨r5, g5, h⟩ := b1_some h
      refine rcV 121 18 [.int ((irm z3_8 4))] rfl rfl rfl (hSh.1.k 18 rfl _) (Nat.le_of_ble_eq_true rfl) rfl (e_Ranks_cameWith N (by omega) hSh g5) ?_
      show RN xs L al (Ev xs L al d) 120 63 [(9, .int ((z3_8 / 4))), (0, .ref 30), (1, .long x1), (3, .long x3), (5, .int x5), (6, .int x6), (7, .ref x7), (8, .int z3_8)] [.int r5] (m, S) (some (.long r0)) (mf, S)
      refine rsn 6 (t := (71, [(10, .int r5), (9, .int ((z3_8 / 4))), (0, .ref 30), (1, .long x1), (3, .long x3), (5, .int x5), (6, .int x6), (7, .ref x7), (8, .int z3_8)], [.int ((3 * z3_8)), .long 1, .long x3])) rfl ?_
      refine rsn 1 (t := (72, [(10, .int r5), (9, .int ((z3_8 / 4))), (0, .ref 30), (1, .long x1), (3, .long x3), (5, .int x5), (6, .int x6), (7, .ref x7), (8, .int z3_8)], [.long ((lsl 1 ((3 * z3_8)))), .long x3])) rfl ?_
      refine rsn 6 (t := (84, [(13, .long ((-9223372036854775808))), (11, .long ((x3 - ((lsl 1 ((3 * z3_8))))))), (10, .int r5), (9, .int ((z3_8 / 4))), (0, .ref 30), (1, .long x1), (3, .long x3), (5, .int x5), (6, .int x6), (7, .ref x7), (8, .int z3_8)], [.int x5, .int z3_8])) rfl ?_
      have jp93 : ∀ (s6 : Int32), (f_Rows_spread_L95 N S rec x1 x7 z3_8 ((z3_8 / 4)) r5 ((x3 - ((lsl 1 ((3 * z3_8)))))) (fun (z14_13 : Int64) (z14_15 : Int32) (m14 : Mm) => some (z14_13, m14)) N ((-9223372036854775808)) s6 m) = some (r0, mf) → RN xs L al (Ev xs L al d) 120 93 [(0, .ref 30), (1, .long x1), (7, .ref x7), (8, .int z3_8), (9, .int ((z3_8 / 4))), (10, .int r5), (11, .long ((x3 - ((lsl 1 ((3 * z3_8))))))), (13, .long ((-9223372036854775808)))] [.int s6] (m, S) (some (.long r0)) (mf, S) := by
        intro s6 h
        try dsimp only at h
        refine rsn 1 (t := (95, [(15, .int s6), (0, .ref 30), (1, .long x1), (7, .ref x7), (8, .int z3_8), (9, .int ((z3_8 / 4))), (10, .int r5), (11, .long ((x3 - ((lsl 1 ((3 * z3_8))))))), (13, .long ((-9223372036854775808)))], [])) rfl ?_
        have ex95 : ∀ (z14_13 : Int64) (z14_15 : Int32) (m14 : Mm), (some (z14_13, m14)) = some (r0, mf) → RN xs L al (Ev xs L al d) 120 168 [(13, .long z14_13)] [] (m14, S) (some (.long r0)) (mf, S) := by
          intro z14_13 z14_15 m14 h
          try dsimp only at h
          refine rsn 1 (t := (170, [(13, .long z14_13)], [.long z14_13])) rfl ?_
          obtain ⟨h, h2⟩ := Prod.mk.inj (Option.some.inj h)
          subst h
          subst h2
          exact rret rfl ⟨rfl, rfl, _, rfl, rfl, rfl⟩
        have lp95 : ∀ (n : Nat) (y15_13 : Int64) (y15_15 : Int32) (m15 : Mm), (f_Rows_spread_L95 N S rec x1 x7 z3_8 ((z3_8 / 4)) r5 ((x3 - ((lsl 1 ((3 * z3_8)))))) (fun (z14_13 : Int64) (z14_15 : Int32) (m14 : Mm) => some (z14_13, m14)) n y15_13 y15_15 m15) = some (r0, mf) → RN xs L al (Ev xs L al d) 120 95 [(0, .ref 30), (1, .long x1), (7, .ref x7), (8, .int z3_8), (9, .int ((z3_8 / 4))), (10, .int r5), (11, .long ((x3 - ((lsl 1 ((3 * z3_8))))))), (13, .long y15_13), (15, .int y15_15)] [] (m15, S) (some (.long r0)) (mf, S) := by
          intro n
          induction n with
          | zero => intro y15_13 y15_15 m15 h; exact absurd h (by simp [f_Rows_spread_L95])
          | succ n95 ih95 =>
            intro y15_13 y15_15 m15 h
            try dsimp only at h
            rw [f_Rows_spread_L95] at h
            try dsimp only at h
            refine rsn 2 (t := (98, [(0, .ref 30), (1, .long x1), (7, .ref x7), (8, .int z3_8), (9, .int ((z3_8 / 4))), (10, .int r5), (11, .long ((x3 - ((lsl 1 ((3 * z3_8))))))), (13, .long y15_13), (15, .int y15_15)], [.int 3, .int y15_15])) rfl ?_
            by_cases c16 : 3 < y15_15
            · rw [if_pos c16] at h
              refine rjt (a := (168, [(0, .ref 30), (1, .long x1), (7, .ref x7), (8, .int z3_8), (9, .int ((z3_8 / 4))), (10, .int r5), (11, .long ((x3 - ((lsl 1 ((3 * z3_8))))))), (13, .long y15_13), (15, .int y15_15)], [])) (b := (101, [(0, .ref 30), (1, .long x1), (7, .ref x7), (8, .int z3_8), (9, .int ((z3_8 / 4))), (10, .int r5), (11, .long ((x3 - ((lsl 1 ((3 * z3_8))))))), (13, .long y15_13), (15, .int y15_15)], [])) rfl rfl c16 ?_
              exact rsub [(13, .long y15_13)] ⟨rfl, trivial⟩ ⟨rfl, trivial⟩ (ex95 y15_13 y15_15 m15 h)
            · rw [if_neg c16] at h
              refine rjf (a := (168, [(0, .ref 30), (1, .long x1), (7, .ref x7), (8, .int z3_8), (9, .int ((z3_8 / 4))), (10, .int r5), (11, .long ((x3 - ((lsl 1 ((3 * z3_8))))))), (13, .long y15_13), (15, .int y15_15)], [])) (b := (101, [(0, .ref 30), (1, .long x1), (7, .ref x7), (8, .int z3_8), (9, .int ((z3_8 / 4))), (10, .int r5), (11, .long ((x3 - ((lsl 1 ((3 * z3_8))))))), (13, .long y15_13), (15, .int y15_15)], [])) rfl rfl c16 ?_
              refine rsn 2 (t := (104, [(0, .ref 30), (1, .long x1), (7, .ref x7), (8, .int z3_8), (9, .int ((z3_8 / 4))), (10, .int r5), (11, .long ((x3 - ((lsl 1 ((3 * z3_8))))))), (13, .long y15_13), (15, .int y15_15)], [.int 3, .int y15_15])) rfl ?_
              have jp135 : ∀ (_ : Unit), (b1 (f_State_with N x1 ((z3_8 / 4)) y15_15) fun r17 => b2 (rec r17 ((x3 - ((lsl 1 ((3 * z3_8)))))) z3_8 y15_15 x7 m15) fun r18 m18 => f_Rows_spread_L95 N S rec x1 x7 z3_8 ((z3_8 / 4)) r5 ((x3 - ((lsl 1 ((3 * z3_8)))))) (fun (z14_13 : Int64) (z14_15 : Int32) (m14 : Mm) => some (z14_13, m14)) n95 ((if r18 < y15_13 then y15_13 else r18)) ((y15_15 + 1)) m18) = some (r0, mf) → RN xs L al (Ev xs L al d) 120 135 [(0, .ref 30), (1, .long x1), (7, .ref x7), (8, .int z3_8), (9, .int ((z3_8 / 4))), (10, .int r5), (11, .long ((x3 - ((lsl 1 ((3 * z3_8))))))), (13, .long y15_13), (15, .int y15_15)] [] (m15, S) (some (.long r0)) (mf, S) := by
                intro _ h
                try dsimp only at h
                refine rsn 5 (t := (143, [(0, .ref 30), (1, .long x1), (7, .ref x7), (8, .int z3_8), (9, .int ((z3_8 / 4))), (10, .int r5), (11, .long ((x3 - ((lsl 1 ((3 * z3_8))))))), (13, .long y15_13), (15, .int y15_15)], [.int y15_15, .int ((z3_8 / 4)), .long x1, .ref 30, .long y15_13])) rfl ?_
                obtain ⟨r17, g17, h⟩ := b1_some h
                refine rcS 70 [.long x1, .int ((z3_8 / 4)), .int y15_15] rfl rfl rfl (Nat.le_of_ble_eq_true rfl) rfl (e_State_with N (by omega) g17) ?_
                show RN xs L al (Ev xs L al d) 120 146 [(0, .ref 30), (1, .long x1), (7, .ref x7), (8, .int z3_8), (9, .int ((z3_8 / 4))), (10, .int r5), (11, .long ((x3 - ((lsl 1 ((3 * z3_8))))))), (13, .long y15_13), (15, .int y15_15)] [.long r17, .ref 30, .long y15_13] (m15, S) (some (.long r0)) (mf, S)
                refine rsn 4 (t := (154, [(0, .ref 30), (1, .long x1), (7, .ref x7), (8, .int z3_8), (9, .int ((z3_8 / 4))), (10, .int r5), (11, .long ((x3 - ((lsl 1 ((3 * z3_8))))))), (13, .long y15_13), (15, .int y15_15)], [.ref x7, .int y15_15, .int z3_8, .long ((x3 - ((lsl 1 ((3 * z3_8)))))), .long r17, .ref 30, .long y15_13])) rfl ?_
                obtain ⟨r18, m18, g18, h⟩ := b2_some h
                refine rcV 120 30 [.long r17, .long ((x3 - ((lsl 1 ((3 * z3_8)))))), .int z3_8, .int y15_15, .ref x7] rfl rfl rfl (hSh.1.k 30 rfl _) (Nat.le_of_ble_eq_true rfl) rfl (Ev_up (hrec hx7 g18) (by omega)) ?_
                show RN xs L al (Ev xs L al d) 120 157 [(0, .ref 30), (1, .long x1), (7, .ref x7), (8, .int z3_8), (9, .int ((z3_8 / 4))), (10, .int r5), (11, .long ((x3 - ((lsl 1 ((3 * z3_8))))))), (13, .long y15_13), (15, .int y15_15)] [.long r18, .long y15_13] (m18, S) (some (.long r0)) (mf, S)
                refine rm (st1 := [.long ((if r18 < y15_13 then y15_13 else r18))]) rfl ⟨rfl, rfl, 1, [], rfl, Nat.le_of_ble_eq_true rfl, Or.inr (Or.inl ⟨rfl, _, _, rfl, rfl⟩)⟩ ?_
                refine rsn 3 (t := (95, [(15, .int ((y15_15 + 1))), (13, .long ((if r18 < y15_13 then y15_13 else r18))), (0, .ref 30), (1, .long x1), (7, .ref x7), (8, .int z3_8), (9, .int ((z3_8 / 4))), (10, .int r5), (11, .long ((x3 - ((lsl 1 ((3 * z3_8)))))))], [])) rfl ?_
                exact rsub [(0, .ref 30), (1, .long x1), (7, .ref x7), (8, .int z3_8), (9, .int ((z3_8 / 4))), (10, .int r5), (11, .long ((x3 - ((lsl 1 ((3 * z3_8))))))), (13, .long ((if r18 < y15_13 then y15_13 else r18))), (15, .int ((y15_15 + 1)))] ⟨rfl, ⟨rfl, ⟨rfl, ⟨rfl, ⟨rfl, ⟨rfl, ⟨rfl, ⟨rfl, ⟨rfl, trivial⟩⟩⟩⟩⟩⟩⟩⟩⟩ ⟨rfl, ⟨rfl, ⟨rfl, ⟨rfl, ⟨rfl, ⟨rfl, ⟨rfl, ⟨rfl, ⟨rfl, trivial⟩⟩⟩⟩⟩⟩⟩⟩⟩ (ih95 ((if r18 < y15_13 then y15_13 else r18)) ((y15_15 + 1)) m18 h)
              rw [jn] at h
              try dsimp only at h
              by_cases c19 : y15_15 = 3
              · rw [if_pos c19] at h
                refine rjf (a := (124, [(0, .ref 30), (1, .long x1), (7, .ref x7), (8, .int z3_8), (9, .int ((z3_8 / 4))), (10, .int r5), (11, .long ((x3 - ((lsl 1 ((3 * z3_8))))))), (13, .long y15_13), (15, .int y15_15)], [])) (b := (107, [(0, .ref 30), (1, .long x1), (7, .ref x7), (8, .int z3_8), (9, .int ((z3_8 / 4))), (10, .int r5), (11, .long ((x3 - ((lsl 1 ((3 * z3_8))))))), (13, .long y15_13), (15, .int y15_15)], [])) rfl rfl (fun q => q c19) ?_
                refine rsn 1 (t := (108, [(0, .ref 30), (1, .long x1), (7, .ref x7), (8, .int z3_8), (9, .int ((z3_8 / 4))), (10, .int r5), (11, .long ((x3 - ((lsl 1 ((3 * z3_8))))))), (13, .long y15_13), (15, .int y15_15)], [.long x1])) rfl ?_
                obtain ⟨r21, g21, h⟩ := b1_some h
                refine rcS 68 [.long x1] rfl rfl rfl (Nat.le_of_ble_eq_true rfl) rfl (e_State_heldOf N (by omega) g21) ?_
                show RN xs L al (Ev xs L al d) 120 111 [(0, .ref 30), (1, .long x1), (7, .ref x7), (8, .int z3_8), (9, .int ((z3_8 / 4))), (10, .int r5), (11, .long ((x3 - ((lsl 1 ((3 * z3_8))))))), (13, .long y15_13), (15, .int y15_15)] [.int r21] (m15, S) (some (.long r0)) (mf, S)
                refine rsn 1 (t := (112, [(0, .ref 30), (1, .long x1), (7, .ref x7), (8, .int z3_8), (9, .int ((z3_8 / 4))), (10, .int r5), (11, .long ((x3 - ((lsl 1 ((3 * z3_8))))))), (13, .long y15_13), (15, .int y15_15)], [.ref 30, .int r21])) rfl ?_
                refine rgR rfl rfl rfl (hSh.1.k 30 rfl _) (hSh.1.r 100 rfl _) ?_
                refine pgI rfl rfl rfl (hSh.1.k 10 rfl _) ?_
                show RN xs L al (Ev xs L al d) 120 118 [(0, .ref 30), (1, .long x1), (7, .ref x7), (8, .int z3_8), (9, .int ((z3_8 / 4))), (10, .int r5), (11, .long ((x3 - ((lsl 1 ((3 * z3_8))))))), (13, .long y15_13), (15, .int y15_15)] [.int ((mI m15 10 2)), .int r21] (m15, S) (some (.long r0)) (mf, S)
                by_cases c22 : ((mI m15 10 2)) ≤ r21
                · rw [if_pos c22] at h
                  refine rjt (a := (162, [(0, .ref 30), (1, .long x1), (7, .ref x7), (8, .int z3_8), (9, .int ((z3_8 / 4))), (10, .int r5), (11, .long ((x3 - ((lsl 1 ((3 * z3_8))))))), (13, .long y15_13), (15, .int y15_15)], [])) (b := (121, [(0, .ref 30), (1, .long x1), (7, .ref x7), (8, .int z3_8), (9, .int ((z3_8 / 4))), (10, .int r5), (11, .long ((x3 - ((lsl 1 ((3 * z3_8))))))), (13, .long y15_13), (15, .int y15_15)], [])) rfl rfl c22 ?_
                  refine rsn 2 (t := (95, [(15, .int ((y15_15 + 1))), (0, .ref 30), (1, .long x1), (7, .ref x7), (8, .int z3_8), (9, .int ((z3_8 / 4))), (10, .int r5), (11, .long ((x3 - ((lsl 1 ((3 * z3_8))))))), (13, .long y15_13)], [])) rfl ?_
                  exact rsub [(0, .ref 30), (1, .long x1), (7, .ref x7), (8, .int z3_8), (9, .int ((z3_8 / 4))), (10, .int r5), (11, .long ((x3 - ((lsl 1 ((3 * z3_8))))))), (13, .long y15_13), (15, .int ((y15_15 + 1)))] ⟨rfl, ⟨rfl, ⟨rfl, ⟨rfl, ⟨rfl, ⟨rfl, ⟨rfl, ⟨rfl, ⟨rfl, trivial⟩⟩⟩⟩⟩⟩⟩⟩⟩ ⟨rfl, ⟨rfl, ⟨rfl, ⟨rfl, ⟨rfl, ⟨rfl, ⟨rfl, ⟨rfl, ⟨rfl, trivial⟩⟩⟩⟩⟩⟩⟩⟩⟩ (ih95 y15_13 ((y15_15 + 1)) m15 h)
                · rw [if_neg c22] at h
                  refine rjf (a := (162, [(0, .ref 30), (1, .long x1), (7, .ref x7), (8, .int z3_8), (9, .int ((z3_8 / 4))), (10, .int r5), (11, .long ((x3 - ((lsl 1 ((3 * z3_8))))))), (13, .long y15_13), (15, .int y15_15)], [])) (b := (121, [(0, .ref 30), (1, .long x1), (7, .ref x7), (8, .int z3_8), (9, .int ((z3_8 / 4))), (10, .int r5), (11, .long ((x3 - ((lsl 1 ((3 * z3_8))))))), (13, .long y15_13), (15, .int y15_15)], [])) rfl rfl c22 ?_
                  refine rsn 1 (t := (135, [(0, .ref 30), (1, .long x1), (7, .ref x7), (8, .int z3_8), (9, .int ((z3_8 / 4))), (10, .int r5), (11, .long ((x3 - ((lsl 1 ((3 * z3_8))))))), (13, .long y15_13), (15, .int y15_15)], [])) rfl ?_
                  exact rsub [(0, .ref 30), (1, .long x1), (7, .ref x7), (8, .int z3_8), (9, .int ((z3_8 / 4))), (10, .int r5), (11, .long ((x3 - ((lsl 1 ((3 * z3_8))))))), (13, .long y15_13), (15, .int y15_15)] ⟨rfl, ⟨rfl, ⟨rfl, ⟨rfl, ⟨rfl, ⟨rfl, ⟨rfl, ⟨rfl, ⟨rfl, trivial⟩⟩⟩⟩⟩⟩⟩⟩⟩ ⟨rfl, ⟨rfl, ⟨rfl, ⟨rfl, ⟨rfl, ⟨rfl, ⟨rfl, ⟨rfl, ⟨rfl, trivial⟩⟩⟩⟩⟩⟩⟩⟩⟩ (jp135 () h)
              · rw [if_neg c19] at h
                refine rjt (a := (124, [(0, .ref 30), (1, .long x1), (7, .ref x7), (8, .int z3_8), (9, .int ((z3_8 / 4))), (10, .int r5), (11, .long ((x3 - ((lsl 1 ((3 * z3_8))))))), (13, .long y15_13), (15, .int y15_15)], [])) (b := (107, [(0, .ref 30), (1, .long x1), (7, .ref x7), (8, .int z3_8), (9, .int ((z3_8 / 4))), (10, .int r5), (11, .long ((x3 - ((lsl 1 ((3 * z3_8))))))), (13, .long y15_13), (15, .int y15_15)], [])) rfl rfl c19 ?_
                refine rsn 6 (t := (132, [(0, .ref 30), (1, .long x1), (7, .ref x7), (8, .int z3_8), (9, .int ((z3_8 / 4))), (10, .int r5), (11, .long ((x3 - ((lsl 1 ((3 * z3_8))))))), (13, .long y15_13), (15, .int y15_15)], [.int 1, .int ((((isr r5 y15_15)) &&& 1))])) rfl ?_
                by_cases c20 : ((((isr r5 y15_15)) &&& 1)) = 1
                · rw [if_pos c20] at h
                  refine rjf (a := (162, [(0, .ref 30), (1, .long x1), (7, .ref x7), (8, .int z3_8), (9, .int ((z3_8 / 4))), (10, .int r5), (11, .long ((x3 - ((lsl 1 ((3 * z3_8))))))), (13, .long y15_13), (15, .int y15_15)], [])) (b := (135, [(0, .ref 30), (1, .long x1), (7, .ref x7), (8, .int z3_8), (9, .int ((z3_8 / 4))), (10, .int r5), (11, .long ((x3 - ((lsl 1 ((3 * z3_8))))))), (13, .long y15_13), (15, .int y15_15)], [])) rfl rfl (fun q => q c20) ?_
                  exact rsub [(0, .ref 30), (1, .long x1), (7, .ref x7), (8, .int z3_8), (9, .int ((z3_8 / 4))), (10, .int r5), (11, .long ((x3 - ((lsl 1 ((3 * z3_8))))))), (13, .long y15_13), (15, .int y15_15)] ⟨rfl, ⟨rfl, ⟨rfl, ⟨rfl, ⟨rfl, ⟨rfl, ⟨rfl, ⟨rfl, ⟨rfl, trivial⟩⟩⟩⟩⟩⟩⟩⟩⟩ ⟨rfl, ⟨rfl, ⟨rfl, ⟨rfl, ⟨rfl, ⟨rfl, ⟨rfl, ⟨rfl, ⟨rfl, trivial⟩⟩⟩⟩⟩⟩⟩⟩⟩ (jp135 () h)
                · rw [if_neg c20] at h
                  refine rjt (a := (162, [(0, .ref 30), (1, .long x1), (7, .ref x7), (8, .int z3_8), (9, .int ((z3_8 / 4))), (10, .int r5), (11, .long ((x3 - ((lsl 1 ((3 * z3_8))))))), (13, .long y15_13), (15, .int y15_15)], [])) (b := (135, [(0, .ref 30), (1, .long x1), (7, .ref x7), (8, .int z3_8), (9, .int ((z3_8 / 4))), (10, .int r5), (11, .long ((x3 - ((lsl 1 ((3 * z3_8))))))), (13, .long y15_13), (15, .int y15_15)], [])) rfl rfl c20 ?_
                  refine rsn 2 (t := (95, [(15, .int ((y15_15 + 1))), (0, .ref 30), (1, .long x1), (7, .ref x7), (8, .int z3_8), (9, .int ((z3_8 / 4))), (10, .int r5), (11, .long ((x3 - ((lsl 1 ((3 * z3_8))))))), (13, .long y15_13)], [])) rfl ?_
                  exact rsub [(0, .ref 30), (1, .long x1), (7, .ref x7), (8, .int z3_8), (9, .int ((z3_8 / 4))), (10, .int r5), (11, .long ((x3 - ((lsl 1 ((3 * z3_8))))))), (13, .long y15_13), (15, .int ((y15_15 + 1)))] ⟨rfl, ⟨rfl, ⟨rfl, ⟨rfl, ⟨rfl, ⟨rfl, ⟨rfl, ⟨rfl, ⟨rfl, trivial⟩⟩⟩⟩⟩⟩⟩⟩⟩ ⟨rfl, ⟨rfl, ⟨rfl, ⟨rfl, ⟨rfl, ⟨rfl, ⟨rfl, ⟨rfl, ⟨rfl, trivial⟩⟩⟩⟩⟩⟩⟩⟩⟩ (ih95 y15_13 ((y15_15 + 1)) m15 h)
        exact rsub [(0, .ref 30), (1, .long x1), (7, .ref x7), (8, .int z3_8), (9, .int ((z3_8 / 4))), (10, .int r5), (11, .long ((x3 - ((lsl 1 ((3 * z3_8))))))), (13, .long ((-9223372036854775808))), (15, .int s6)] ⟨rfl, ⟨rfl, ⟨rfl, ⟨rfl, ⟨rfl, ⟨rfl, ⟨rfl, ⟨rfl, ⟨rfl, trivial⟩⟩⟩⟩⟩⟩⟩⟩⟩ ⟨rfl, ⟨rfl, ⟨rfl, ⟨rfl, ⟨rfl, ⟨rfl, ⟨rfl, ⟨rfl, ⟨rfl, trivial⟩⟩⟩⟩⟩⟩⟩⟩⟩ (lp95 N ((-9223372036854775808)) s6 m h)
      rw [jn] at h
      try dsimp only at h
      by_cases c23 : z3_8 = x5
      · rw [if_pos c23] at h
        refine rjf (a := (92, [(13, .long ((-9223372036854775808))), (11, .long ((x3 - ((lsl 1 ((3 * z3_8))))))), (10, .int r5), (9, .int ((z3_8 / 4))), (0, .ref 30), (1, .long x1), (3, .long x3), (5, .int x5), (6, .int x6), (7, .ref x7), (8, .int z3_8)], [])) (b := (87, [(13, .long ((-9223372036854775808))), (11, .long ((x3 - ((lsl 1 ((3 * z3_8))))))), (10, .int r5), (9, .int ((z3_8 / 4))), (0, .ref 30), (1, .long x1), (3, .long x3), (5, .int x5), (6, .int x6), (7, .ref x7), (8, .int z3_8)], [])) rfl rfl (fun q => q c23) ?_
        refine rsn 2 (t := (93, [(13, .long ((-9223372036854775808))), (11, .long ((x3 - ((lsl 1 ((3 * z3_8))))))), (10, .int r5), (9, .int ((z3_8 / 4))), (0, .ref 30), (1, .long x1), (3, .long x3), (5, .int x5), (6, .int x6), (7, .ref x7), (8, .int z3_8)], [.int x6])) rfl ?_
        exact rsub [(0, .ref 30), (1, .long x1), (7, .ref x7), (8, .int z3_8), (9, .int ((z3_8 / 4))), (10, .int r5), (11, .long ((x3 - ((lsl 1 ((3 * z3_8))))))), (13, .long ((-9223372036854775808)))] ⟨rfl, ⟨rfl, ⟨rfl, ⟨rfl, ⟨rfl, ⟨rfl, ⟨rfl, ⟨rfl, trivial⟩⟩⟩⟩⟩⟩⟩⟩ ⟨rfl, ⟨rfl, ⟨rfl, ⟨rfl, ⟨rfl, ⟨rfl, ⟨rfl, ⟨rfl, trivial⟩⟩⟩⟩⟩⟩⟩⟩ (jp93 x6 h)
      · rw [if_neg c23] at h
        refine rjt (a := (92, [(13, .long ((-9223372036854775808))), (11, .long ((x3 - ((lsl 1 ((3 * z3_8))))))), (10, .int r5), (9, .int ((z3_8 / 4))), (0, .ref 30), (1, .long x1), (3, .long x3), (5, .int x5), (6, .int x6), (7, .ref x7), (8, .int z3_8)], [])) (b := (87, [(13, .long ((-9223372036854775808))), (11, .long ((x3 - ((lsl 1 ((3 * z3_8))))))), (10, .int r5), (9, .int ((z3_8 / 4))), (0, .ref 30), (1, .long x1), (3, .long x3), (5, .int x5), (6, .int x6), (7, .ref x7), (8, .int z3_8)], [])) rfl rfl c23 ?_
        refine rsn 1 (t := (93, [(13, .long ((-9223372036854775808))), (11, .long ((x3 - ((lsl 1 ((3 * z3_8))))))), (10, .int r5), (9, .int ((z3_8 / 4))), (0, .ref 30), (1, .long x1), (3, .long x3), (5, .int x5), (6, .int x6), (7, .ref x7), (8, .int z3_8)], [.int 0])) rfl ?_
        exact rsub [(0, .ref 30), (1, .long x1), (7, .ref x7), (8, .int z3_8), (9, .int ((z3_8 / 4))), (10, .int r5), (11, .long ((x3 - ((lsl 1 ((3 * z3_8))))))), (13, .long ((-9223372036854775808)))] ⟨rfl, ⟨rfl, ⟨rfl, ⟨rfl, ⟨rfl, ⟨rfl, ⟨rfl, ⟨rfl, trivial⟩⟩⟩⟩⟩⟩⟩⟩ ⟨rfl, ⟨rfl, ⟨rfl, ⟨rfl, ⟨rfl, ⟨rfl, ⟨rfl, ⟨rfl, trivial⟩⟩⟩⟩⟩⟩⟩⟩ (jp93 0 h)
    · rw [if_neg c4] at h
      refine rjf (a := (46, [(0, .ref 30), (1, .long x1), (3, .long x3), (5, .int x5), (6, .int x6), (7, .ref x7), (8, .int z3_8)], [])) (b := (39, [(0, .ref 30), (1, .long x1), (3, .long x3), (5, .int x5), (6, .int x6), (7, .ref x7), (8, .int z3_8)], [])) rfl rfl c4 ?_
      refine rsn 2 (t := (42, [(0, .ref 30), (1, .long x1), (3, .long x3), (5, .int x5), (6, .int x6), (7, .ref x7), (8, .int z3_8)], [.long x1, .ref x7])) rfl ?_
      obtain ⟨r24, m24, g24, h⟩ := b2_some h
      refine rcV 80 x7 [.long x1] rfl rfl rfl (hSh.kE hx7 _) (Nat.le_of_ble_eq_true rfl) rfl (e_Ends_value N (by omega) hSh hx7 g24) ?_
      show RN xs L al (Ev xs L al d) 120 45 [(0, .ref 30), (1, .long x1), (3, .long x3), (5, .int x5), (6, .int x6), (7, .ref x7), (8, .int z3_8)] [.long r24] (m24, S) (some (.long r0)) (mf, S)
      obtain ⟨h, h2⟩ := Prod.mk.inj (Option.some.inj h)
      subst h
      subst h2
      exact rret rfl ⟨rfl, rfl, _, rfl, rfl, rfl⟩
  have lp4 : ∀ (n : Nat) (y25_8 : Int32), (f_Rows_spread_L4 N S rec x1 x3 x5 x6 x7 m (fun (z3_8 : Int32) => (if z3_8 < 12 then b1 (f_Ranks_cameWith N S ((irm z3_8 4)) m) fun r5 => (jn (fun (s6 : Int32) => f_Rows_spread_L95 N S rec x1 x7 z3_8 ((z3_8 / 4)) r5 ((x3 - ((lsl 1 ((3 * z3_8)))))) (fun (z14_13 : Int64) (z14_15 : Int32) (m14 : Mm) => some (z14_13, m14)) N ((-9223372036854775808)) s6 m) (fun j93 => if z3_8 = x5 then j93 x6 else j93 0)) else b2 (f_Ends_value N S x7 x1 m) fun r24 m24 => some (r24, m24))) n y25_8) = some (r0, mf) → RN xs L al (Ev xs L al d) 120 4 [(0, .ref 30), (1, .long x1), (3, .long x3), (5, .int x5), (6, .int x6), (7, .ref x7), (8, .int y25_8)] [] (m, S) (some (.long r0)) (mf, S) := by
    intro n
    induction n with
    | zero => intro y25_8 h; exact absurd h (by simp [f_Rows_spread_L4])
    | succ n4 ih4 =>
      intro y25_8 h
      try dsimp only at h
      rw [f_Rows_spread_L4] at h
      try dsimp only at h
      refine rsn 2 (t := (8, [(0, .ref 30), (1, .long x1), (3, .long x3), (5, .int x5), (6, .int x6), (7, .ref x7), (8, .int y25_8)], [.int 12, .int y25_8])) rfl ?_
      by_cases c26 : 12 ≤ y25_8
      · rw [if_pos c26] at h
        refine rjt (a := (32, [(0, .ref 30), (1, .long x1), (3, .long x3), (5, .int x5), (6, .int x6), (7, .ref x7), (8, .int y25_8)], [])) (b := (11, [(0, .ref 30), (1, .long x1), (3, .long x3), (5, .int x5), (6, .int x6), (7, .ref x7), (8, .int y25_8)], [])) rfl rfl c26 ?_
        exact rsub [(0, .ref 30), (1, .long x1), (3, .long x3), (5, .int x5), (6, .int x6), (7, .ref x7), (8, .int y25_8)] ⟨rfl, ⟨rfl, ⟨rfl, ⟨rfl, ⟨rfl, ⟨rfl, ⟨rfl, trivial⟩⟩⟩⟩⟩⟩⟩ ⟨rfl, ⟨rfl, ⟨rfl, ⟨rfl, ⟨rfl, ⟨rfl, ⟨rfl, trivial⟩⟩⟩⟩⟩⟩⟩ (ex4 y25_8 h)
      · rw [if_neg c26] at h
        refine rjf (a := (32, [(0, .ref 30), (1, .long x1), (3, .long x3), (5, .int x5), (6, .int x6), (7, .ref x7), (8, .int y25_8)], [])) (b := (11, [(0, .ref 30), (1, .long x1), (3, .long x3), (5, .int x5), (6, .int x6), (7, .ref x7), (8, .int y25_8)], [])) rfl rfl c26 ?_
        refine rsn 4 (t := (16, [(0, .ref 30), (1, .long x1), (3, .long x3), (5, .int x5), (6, .int x6), (7, .ref x7), (8, .int y25_8)], [.int ((3 * y25_8)), .long x3])) rfl ?_
        refine rsn 1 (t := (17, [(0, .ref 30), (1, .long x1), (3, .long x3), (5, .int x5), (6, .int x6), (7, .ref x7), (8, .int y25_8)], [.long ((lus x3 ((3 * y25_8))))])) rfl ?_
        refine rsn 4 (t := (23, [(0, .ref 30), (1, .long x1), (3, .long x3), (5, .int x5), (6, .int x6), (7, .ref x7), (8, .int y25_8)], [.int ((lg_cmp ((((lus x3 ((3 * y25_8)))) &&& 7)) 0))])) rfl ?_
        by_cases c27 : ((((lus x3 ((3 * y25_8)))) &&& 7)) = 0
        · rw [if_pos c27] at h
          refine rjf (a := (32, [(0, .ref 30), (1, .long x1), (3, .long x3), (5, .int x5), (6, .int x6), (7, .ref x7), (8, .int y25_8)], [])) (b := (26, [(0, .ref 30), (1, .long x1), (3, .long x3), (5, .int x5), (6, .int x6), (7, .ref x7), (8, .int y25_8)], [])) rfl rfl (fun q => q (lgc_eq.mpr c27)) ?_
          refine rsn 2 (t := (4, [(8, .int ((y25_8 + 1))), (0, .ref 30), (1, .long x1), (3, .long x3), (5, .int x5), (6, .int x6), (7, .ref x7)], [])) rfl ?_
          exact rsub [(0, .ref 30), (1, .long x1), (3, .long x3), (5, .int x5), (6, .int x6), (7, .ref x7), (8, .int ((y25_8 + 1)))] ⟨rfl, ⟨rfl, ⟨rfl, ⟨rfl, ⟨rfl, ⟨rfl, ⟨rfl, trivial⟩⟩⟩⟩⟩⟩⟩ ⟨rfl, ⟨rfl, ⟨rfl, ⟨rfl, ⟨rfl, ⟨rfl, ⟨rfl, trivial⟩⟩⟩⟩⟩⟩⟩ (ih4 ((y25_8 + 1)) h)
        · rw [if_neg c27] at h
          refine rjt (a := (32, [(0, .ref 30), (1, .long x1), (3, .long x3), (5, .int x5), (6, .int x6), (7, .ref x7), (8, .int y25_8)], [])) (b := (26, [(0, .ref 30), (1, .long x1), (3, .long x3), (5, .int x5), (6, .int x6), (7, .ref x7), (8, .int y25_8)], [])) rfl rfl (fun q => c27 (lgc_eq.mp q)) ?_
          exact rsub [(0, .ref 30), (1, .long x1), (3, .long x3), (5, .int x5), (6, .int x6), (7, .ref x7), (8, .int y25_8)] ⟨rfl, ⟨rfl, ⟨rfl, ⟨rfl, ⟨rfl, ⟨rfl, ⟨rfl, trivial⟩⟩⟩⟩⟩⟩⟩ ⟨rfl, ⟨rfl, ⟨rfl, ⟨rfl, ⟨rfl, ⟨rfl, ⟨rfl, trivial⟩⟩⟩⟩⟩⟩⟩ (ex4 y25_8 h)
  exact rsub [(0, .ref 30), (1, .long x1), (3, .long x3), (5, .int x5), (6, .int x6), (7, .ref x7), (8, .int x5)] ⟨rfl, ⟨rfl, ⟨rfl, ⟨rfl, ⟨rfl, ⟨rfl, ⟨rfl, trivial⟩⟩⟩⟩⟩⟩⟩ ⟨rfl, ⟨rfl, ⟨rfl, ⟨rfl, ⟨rfl, ⟨rfl, ⟨rfl, trivial⟩⟩⟩⟩⟩⟩⟩ (lp4 N x5 h)
def fR_Rows_spread (N : Nat) (S : St) : Nat → Int64 → Int64 → Int32 → Int32 → Nat → Mm → Option (Int64 × Mm)
  | 0, _, _, _, _, _, _ => none
  | q + 1, x1, x3, x5, x6, x7, m => fM_Rows_spread N S (fR_Rows_spread N S q) x1 x3 x5 x6 x7 m
theorem eR_Rows_spread {xs : Nat → Int32} {L : Nat} {al : Bool} (N : Nat) {S : St} (hSh : ShC S) : ∀ (q : Nat) {d : Nat} (_ : 1 * q + 41 ≤ d) {x1 : Int64} {x3 : Int64} {x5 : Int32} {x6 : Int32} {x7 : Nat} {m : Mm} {r0 : Int64} {mf : Mm} (hx7 : x7 ∈ eKl) (_ : fR_Rows_spread N S q x1 x3 x5 x6 x7 m = some (r0, mf)), Ev xs L al d 120 [.ref 30, .long x1, .long x3, .int x5, .int x6, .ref x7] (m, S) (some (.long r0)) (mf, S) := by
  intro q
  induction q with
  | zero => intro d hd x1 x3 x5 x6 x7 m r0 mf hx7 h; exact absurd h (by simp [fR_Rows_spread])
  | succ q ih =>
    intro d hd x1 x3 x5 x6 x7 m r0 mf hx7 h
    rw [fR_Rows_spread] at h
    exact eM_Rows_spread N (D0 := 1 * q + 41) (by omega) (fun hx7 h => ih (Nat.le_refl _) hx7 h) (by omega) hSh hx7 h
def f_Rows_spread (N : Nat) (S : St) (x1 : Int64) (x3 : Int64) (x5 : Int32) (x6 : Int32) (x7 : Nat) (m : Mm) : Option (Int64 × Mm) := fR_Rows_spread N S 8 x1 x3 x5 x6 x7 m
theorem e_Rows_spread {xs : Nat → Int32} {L : Nat} {al : Bool} (N : Nat) {d : Nat} (hd : 50 ≤ d) {S : St} (hSh : ShC S) {x1 : Int64} {x3 : Int64} {x5 : Int32} {x6 : Int32} {x7 : Nat} (hx7 : x7 ∈ eKl) {m : Mm} {r0 : Int64} {mf : Mm} (h : f_Rows_spread N S x1 x3 x5 x6 x7 m = some (r0, mf)) : Ev xs L al d 120 [.ref 30, .long x1, .long x3, .int x5, .int x6, .ref x7] (m, S) (some (.long r0)) (mf, S) := eR_Rows_spread N hSh 8 (by omega) hx7 h
def f_Rows_walkOn_L75 (N : Nat) (S : St) (rec : Int64 → Int64 → Nat → Mm → Option (Mm)) (x1 : Int64) (x3 : Int64) (x5 : Nat) (x6 : Int32) (k75 : Int32 → Mm → Option (Mm)) : Nat → Int32 → Mm → Option (Mm)
  | 0, _, _ => none
  | n75 + 1, x7, m => b1 (f_Will_alts N S 10 x6 m) fun r7 => (if r7 ≤ x7 then k75 x7 m else b1 (f_Rows_traced N S x3 x6 x7 m) fun r9 => b3 (rec x1 r9 x5 m) fun m10 => f_Rows_walkOn_L75 N S rec x1 x3 x5 x6 k75 n75 ((x7 + 1)) m10)
def fM_Rows_walkOn (N : Nat) (S : St) (rec : Int64 → Int64 → Nat → Mm → Option (Mm)) (x1 : Int64) (x3 : Int64) (x5 : Nat) (m : Mm) : Option (Mm) := (if ((mJ m 30 4)) ≤ ((mJ m 30 5)) then some m else b1 (f_Ranks_placeOf N S x3 m) fun r2 => b2 (f_Rows_wasWalked N S r2 m) fun r3 m3 => (if r3 = 0 then b1 (f_State_dayOf N x3) fun r5 => (if r5 < ((mI m3 10 1)) then f_Rows_walkOn_L75 N S rec x1 x3 x5 r5 (fun (z11_7 : Int32) (m11 : Mm) => some m11) N 0 m3 else b1 (f_Rows_ending N x1 x3) fun r17 => b2 (f_Rows_spread N S r17 x3 0 0 x5 m3) fun r18 m18 => some (vJ m18 30 4 ((if r18 < ((mJ m3 30 4)) then r18 else ((mJ m3 30 4)))))) else some m3))
set_option maxRecDepth 20000 in
set_option maxHeartbeats 4000000 in
theorem eM_Rows_walkOn {xs : Nat → Int32} {L : Nat} {al : Bool} (N : Nat) {S : St} {rec : Int64 → Int64 → Nat → Mm → Option (Mm)} {D0 : Nat} (hD : 51 ≤ D0) (hrec : ∀ {x1 : Int64} {x3 : Int64} {x5 : Nat} {m : Mm} {mf : Mm} (hx5 : x5 ∈ eKl), rec x1 x3 x5 m = some mf → Ev xs L al D0 125 [.ref 30, .long x1, .long x3, .ref x5] (m, S) none (mf, S)) {d : Nat} (hd : D0 + 1 ≤ d) (hSh : ShC S) {x1 : Int64} {x3 : Int64} {x5 : Nat} (hx5 : x5 ∈ eKl) {m : Mm} {mf : Mm} (h : fM_Rows_walkOn N S rec x1 x3 x5 m = some mf) : Ev xs L al d 125 [.ref 30, .long x1, .long x3, .ref x5] (m, S) none (mf, S) := by
  obtain ⟨d, rfl⟩ : ∃ e, d = e + 1 := ⟨d - 1, by omega⟩
  refine ev_of (by decide) (Nat.le_of_ble_eq_true rfl) ?_
  rw [fM_Rows_walkOn] at h
  show RN xs L al (Ev xs L al d) 125 0 [(0, .ref 30), (1, .long x1), (3, .long x3), (5, .ref x5)] [] (m, S) none (mf, S)
  refine rsn 1 (t := (1, [(0, .ref 30), (1, .long x1), (3, .long x3), (5, .ref x5)], [.ref 30])) rfl ?_
  refine pgJ rfl rfl rfl (hSh.1.k 30 rfl _) ?_
  show RN xs L al (Ev xs L al d) 125 4 [(0, .ref 30), (1, .long x1), (3, .long x3), (5, .ref x5)] [.long ((mJ m 30 4))] (m, S) none (mf, S)
  refine rsn 1 (t := (5, [(0, .ref 30), (1, .long x1), (3, .long x3), (5, .ref x5)], [.ref 30, .long ((mJ m 30 4))])) rfl ?_
  refine pgJ rfl rfl rfl (hSh.1.k 30 rfl _) ?_
  show RN xs L al (Ev xs L al d) 125 8 [(0, .ref 30), (1, .long x1), (3, .long x3), (5, .ref x5)] [.long ((mJ m 30 5)), .long ((mJ m 30 4))] (m, S) none (mf, S)
  refine rsn 1 (t := (9, [(0, .ref 30), (1, .long x1), (3, .long x3), (5, .ref x5)], [.int ((lg_cmp ((mJ m 30 4)) ((mJ m 30 5))))])) rfl ?_
  by_cases c1 : ((mJ m 30 4)) ≤ ((mJ m 30 5))
  · rw [if_pos c1] at h
    refine rjt (a := (27, [(0, .ref 30), (1, .long x1), (3, .long x3), (5, .ref x5)], [])) (b := (12, [(0, .ref 30), (1, .long x1), (3, .long x3), (5, .ref x5)], [])) rfl rfl (lgc_le.mpr c1) ?_
    have h := Option.some.inj h
    subst h
    exact rret rfl ⟨rfl, rfl, rfl, rfl, rfl⟩
  · rw [if_neg c1] at h
    refine rjf (a := (27, [(0, .ref 30), (1, .long x1), (3, .long x3), (5, .ref x5)], [])) (b := (12, [(0, .ref 30), (1, .long x1), (3, .long x3), (5, .ref x5)], [])) rfl rfl (fun q => c1 (lgc_le.mp q)) ?_
    refine rsn 2 (t := (14, [(0, .ref 30), (1, .long x1), (3, .long x3), (5, .ref x5)], [.ref 30, .ref 30])) rfl ?_
    refine rgR rfl rfl rfl (hSh.1.k 30 rfl _) (hSh.1.r 101 rfl _) ?_
    refine rsn 1 (t := (18, [(0, .ref 30), (1, .long x1), (3, .long x3), (5, .ref x5)], [.long x3, .ref 18, .ref 30])) rfl ?_
    obtain ⟨r2, g2, h⟩ := b1_some h
    refine rcV 102 18 [.long x3] rfl rfl rfl (hSh.1.k 18 rfl _) (Nat.le_of_ble_eq_true rfl) rfl (e_Ranks_placeOf N (by omega) hSh g2) ?_
    show RN xs L al (Ev xs L al d) 125 21 [(0, .ref 30), (1, .long x1), (3, .long x3), (5, .ref x5)] [.int r2, .ref 30] (m, S) none (mf, S)
    obtain ⟨r3, m3, g3, h⟩ := b2_some h
    refine rcV 126 30 [.int r2] rfl rfl rfl (hSh.1.k 30 rfl _) (Nat.le_of_ble_eq_true rfl) rfl (e_Rows_wasWalked N (by omega) hSh g3) ?_
    show RN xs L al (Ev xs L al d) 125 24 [(0, .ref 30), (1, .long x1), (3, .long x3), (5, .ref x5)] [.int r3] (m3, S) none (mf, S)
    by_cases c4 : r3 = 0
    · rw [if_pos c4] at h
      refine rjt (a := (28, [(0, .ref 30), (1, .long x1), (3, .long x3), (5, .ref x5)], [])) (b := (27, [(0, .ref 30), (1, .long x1), (3, .long x3), (5, .ref x5)], [])) rfl rfl c4 ?_
      refine rsn 1 (t := (29, [(0, .ref 30), (1, .long x1), (3, .long x3), (5, .ref x5)], [.long x3])) rfl ?_
      obtain ⟨r5, g5, h⟩ := b1_some h
      refine rcS 63 [.long x3] rfl rfl rfl (Nat.le_of_ble_eq_true rfl) rfl (e_State_dayOf N (by omega) g5) ?_
      show RN xs L al (Ev xs L al d) 125 32 [(0, .ref 30), (1, .long x1), (3, .long x3), (5, .ref x5)] [.int r5] (m3, S) none (mf, S)
      refine rsn 3 (t := (37, [(6, .int r5), (0, .ref 30), (1, .long x1), (3, .long x3), (5, .ref x5)], [.ref 30, .int r5])) rfl ?_
      refine rgR rfl rfl rfl (hSh.1.k 30 rfl _) (hSh.1.r 100 rfl _) ?_
      refine pgI rfl rfl rfl (hSh.1.k 10 rfl _) ?_
      show RN xs L al (Ev xs L al d) 125 43 [(6, .int r5), (0, .ref 30), (1, .long x1), (3, .long x3), (5, .ref x5)] [.int ((mI m3 10 1)), .int r5] (m3, S) none (mf, S)
      by_cases c6 : r5 < ((mI m3 10 1))
      · rw [if_pos c6] at h
        refine rjt (a := (72, [(6, .int r5), (0, .ref 30), (1, .long x1), (3, .long x3), (5, .ref x5)], [])) (b := (46, [(6, .int r5), (0, .ref 30), (1, .long x1), (3, .long x3), (5, .ref x5)], [])) rfl rfl c6 ?_
        refine rsn 2 (t := (75, [(7, .int 0), (6, .int r5), (0, .ref 30), (1, .long x1), (3, .long x3), (5, .ref x5)], [])) rfl ?_
        have ex75 : ∀ (z11_7 : Int32) (m11 : Mm), (some m11) = some mf → RN xs L al (Ev xs L al d) 125 111 [] [] (m11, S) none (mf, S) := by
          intro z11_7 m11 h
          try dsimp only at h
          have h := Option.some.inj h
          subst h
          exact rret rfl ⟨rfl, rfl, rfl, rfl, rfl⟩
        have lp75 : ∀ (n : Nat) (y12_7 : Int32) (m12 : Mm), (f_Rows_walkOn_L75 N S rec x1 x3 x5 r5 (fun (z11_7 : Int32) (m11 : Mm) => some m11) n y12_7 m12) = some mf → RN xs L al (Ev xs L al d) 125 75 [(0, .ref 30), (1, .long x1), (3, .long x3), (5, .ref x5), (6, .int r5), (7, .int y12_7)] [] (m12, S) none (mf, S) := by
          intro n
          induction n with
          | zero => intro y12_7 m12 h; exact absurd h (by simp [f_Rows_walkOn_L75])
          | succ n75 ih75 =>
            intro y12_7 m12 h
            try dsimp only at h
            rw [f_Rows_walkOn_L75] at h
            try dsimp only at h
            refine rsn 2 (t := (78, [(0, .ref 30), (1, .long x1), (3, .long x3), (5, .ref x5), (6, .int r5), (7, .int y12_7)], [.ref 30, .int y12_7])) rfl ?_
            refine rgR rfl rfl rfl (hSh.1.k 30 rfl _) (hSh.1.r 100 rfl _) ?_
            refine rsn 1 (t := (83, [(0, .ref 30), (1, .long x1), (3, .long x3), (5, .ref x5), (6, .int r5), (7, .int y12_7)], [.int r5, .ref 10, .int y12_7])) rfl ?_
            obtain ⟨r13, g13, h⟩ := b1_some h
            refine rcV 48 10 [.int r5] rfl rfl rfl (hSh.1.k 10 rfl _) (Nat.le_of_ble_eq_true rfl) rfl (e_Will_alts N (by omega) hSh (by decide) g13) ?_
            show RN xs L al (Ev xs L al d) 125 86 [(0, .ref 30), (1, .long x1), (3, .long x3), (5, .ref x5), (6, .int r5), (7, .int y12_7)] [.int r13, .int y12_7] (m12, S) none (mf, S)
            by_cases c14 : r13 ≤ y12_7
            · rw [if_pos c14] at h
              refine rjt (a := (111, [(0, .ref 30), (1, .long x1), (3, .long x3), (5, .ref x5), (6, .int r5), (7, .int y12_7)], [])) (b := (89, [(0, .ref 30), (1, .long x1), (3, .long x3), (5, .ref x5), (6, .int r5), (7, .int y12_7)], [])) rfl rfl c14 ?_
              exact rsub [] trivial trivial (ex75 y12_7 m12 h)
            · rw [if_neg c14] at h
              refine rjf (a := (111, [(0, .ref 30), (1, .long x1), (3, .long x3), (5, .ref x5), (6, .int r5), (7, .int y12_7)], [])) (b := (89, [(0, .ref 30), (1, .long x1), (3, .long x3), (5, .ref x5), (6, .int r5), (7, .int y12_7)], [])) rfl rfl c14 ?_
              refine rsn 6 (t := (97, [(0, .ref 30), (1, .long x1), (3, .long x3), (5, .ref x5), (6, .int r5), (7, .int y12_7)], [.int y12_7, .int r5, .long x3, .ref 30, .long x1, .ref 30])) rfl ?_
              obtain ⟨r15, g15, h⟩ := b1_some h
              refine rcV 118 30 [.long x3, .int r5, .int y12_7] rfl rfl rfl (hSh.1.k 30 rfl _) (Nat.le_of_ble_eq_true rfl) rfl (e_Rows_traced N (by omega) hSh g15) ?_
              show RN xs L al (Ev xs L al d) 125 100 [(0, .ref 30), (1, .long x1), (3, .long x3), (5, .ref x5), (6, .int r5), (7, .int y12_7)] [.long r15, .long x1, .ref 30] (m12, S) none (mf, S)
              refine rsn 1 (t := (102, [(0, .ref 30), (1, .long x1), (3, .long x3), (5, .ref x5), (6, .int r5), (7, .int y12_7)], [.ref x5, .long r15, .long x1, .ref 30])) rfl ?_
              obtain ⟨m16, g16, h⟩ := b3_some h
              refine rcV 125 30 [.long x1, .long r15, .ref x5] rfl rfl rfl (hSh.1.k 30 rfl _) (Nat.le_of_ble_eq_true rfl) rfl (Ev_up (hrec hx5 g16) (by omega)) ?_
              show RN xs L al (Ev xs L al d) 125 105 [(0, .ref 30), (1, .long x1), (3, .long x3), (5, .ref x5), (6, .int r5), (7, .int y12_7)] [] (m16, S) none (mf, S)
              refine rsn 2 (t := (75, [(7, .int ((y12_7 + 1))), (0, .ref 30), (1, .long x1), (3, .long x3), (5, .ref x5), (6, .int r5)], [])) rfl ?_
              exact rsub [(0, .ref 30), (1, .long x1), (3, .long x3), (5, .ref x5), (6, .int r5), (7, .int ((y12_7 + 1)))] ⟨rfl, ⟨rfl, ⟨rfl, ⟨rfl, ⟨rfl, ⟨rfl, trivial⟩⟩⟩⟩⟩⟩ ⟨rfl, ⟨rfl, ⟨rfl, ⟨rfl, ⟨rfl, ⟨rfl, trivial⟩⟩⟩⟩⟩⟩ (ih75 ((y12_7 + 1)) m16 h)
        exact rsub [(0, .ref 30), (1, .long x1), (3, .long x3), (5, .ref x5), (6, .int r5), (7, .int 0)] ⟨rfl, ⟨rfl, ⟨rfl, ⟨rfl, ⟨rfl, ⟨rfl, trivial⟩⟩⟩⟩⟩⟩ ⟨rfl, ⟨rfl, ⟨rfl, ⟨rfl, ⟨rfl, ⟨rfl, trivial⟩⟩⟩⟩⟩⟩ (lp75 N 0 m3 h)
      · rw [if_neg c6] at h
        refine rjf (a := (72, [(6, .int r5), (0, .ref 30), (1, .long x1), (3, .long x3), (5, .ref x5)], [])) (b := (46, [(6, .int r5), (0, .ref 30), (1, .long x1), (3, .long x3), (5, .ref x5)], [])) rfl rfl c6 ?_
        refine rsn 2 (t := (48, [(6, .int r5), (0, .ref 30), (1, .long x1), (3, .long x3), (5, .ref x5)], [.ref 30, .ref 30])) rfl ?_
        refine pgJ rfl rfl rfl (hSh.1.k 30 rfl _) ?_
        show RN xs L al (Ev xs L al d) 125 51 [(6, .int r5), (0, .ref 30), (1, .long x1), (3, .long x3), (5, .ref x5)] [.long ((mJ m3 30 4)), .ref 30] (m3, S) none (mf, S)
        refine rsn 3 (t := (54, [(6, .int r5), (0, .ref 30), (1, .long x1), (3, .long x3), (5, .ref x5)], [.long x3, .long x1, .ref 30, .long ((mJ m3 30 4)), .ref 30])) rfl ?_
        obtain ⟨r17, g17, h⟩ := b1_some h
        refine rcS 119 [.long x1, .long x3] rfl rfl rfl (Nat.le_of_ble_eq_true rfl) rfl (e_Rows_ending N (by omega) g17) ?_
        show RN xs L al (Ev xs L al d) 125 57 [(6, .int r5), (0, .ref 30), (1, .long x1), (3, .long x3), (5, .ref x5)] [.long r17, .ref 30, .long ((mJ m3 30 4)), .ref 30] (m3, S) none (mf, S)
        refine rsn 4 (t := (62, [(6, .int r5), (0, .ref 30), (1, .long x1), (3, .long x3), (5, .ref x5)], [.ref x5, .int 0, .int 0, .long x3, .long r17, .ref 30, .long ((mJ m3 30 4)), .ref 30])) rfl ?_
        obtain ⟨r18, m18, g18, h⟩ := b2_some h
        refine rcV 120 30 [.long r17, .long x3, .int 0, .int 0, .ref x5] rfl rfl rfl (hSh.1.k 30 rfl _) (Nat.le_of_ble_eq_true rfl) rfl (e_Rows_spread N (by omega) hSh hx5 g18) ?_
        show RN xs L al (Ev xs L al d) 125 65 [(6, .int r5), (0, .ref 30), (1, .long x1), (3, .long x3), (5, .ref x5)] [.long r18, .long ((mJ m3 30 4)), .ref 30] (m18, S) none (mf, S)
        refine rm (st1 := [.long ((if r18 < ((mJ m3 30 4)) then r18 else ((mJ m3 30 4)))), .ref 30]) rfl ⟨rfl, rfl, 3, [.ref 30], rfl, Nat.le_of_ble_eq_true rfl, Or.inr (Or.inr (Or.inr ⟨rfl, _, _, rfl, rfl⟩))⟩ ?_
        refine ppJ rfl rfl rfl rfl (hSh.1.k 30 rfl _) ?_
        have h := Option.some.inj h
        subst h
        exact rret rfl ⟨rfl, rfl, rfl, rfl, rfl⟩
    · rw [if_neg c4] at h
      refine rjf (a := (28, [(0, .ref 30), (1, .long x1), (3, .long x3), (5, .ref x5)], [])) (b := (27, [(0, .ref 30), (1, .long x1), (3, .long x3), (5, .ref x5)], [])) rfl rfl c4 ?_
      have h := Option.some.inj h
      subst h
      exact rret rfl ⟨rfl, rfl, rfl, rfl, rfl⟩
def fR_Rows_walkOn (N : Nat) (S : St) : Nat → Int64 → Int64 → Nat → Mm → Option (Mm)
  | 0, _, _, _, _ => none
  | q + 1, x1, x3, x5, m => fM_Rows_walkOn N S (fR_Rows_walkOn N S q) x1 x3 x5 m
theorem eR_Rows_walkOn {xs : Nat → Int32} {L : Nat} {al : Bool} (N : Nat) {S : St} (hSh : ShC S) : ∀ (q : Nat) {d : Nat} (_ : 1 * q + 51 ≤ d) {x1 : Int64} {x3 : Int64} {x5 : Nat} {m : Mm} {mf : Mm} (hx5 : x5 ∈ eKl) (_ : fR_Rows_walkOn N S q x1 x3 x5 m = some mf), Ev xs L al d 125 [.ref 30, .long x1, .long x3, .ref x5] (m, S) none (mf, S) := by
  intro q
  induction q with
  | zero => intro d hd x1 x3 x5 m mf hx5 h; exact absurd h (by simp [fR_Rows_walkOn])
  | succ q ih =>
    intro d hd x1 x3 x5 m mf hx5 h
    rw [fR_Rows_walkOn] at h
    exact eM_Rows_walkOn N (D0 := 1 * q + 51) (by omega) (fun hx5 h => ih (Nat.le_refl _) hx5 h) (by omega) hSh hx5 h
def f_Rows_walkOn (N : Nat) (S : St) (x1 : Int64) (x3 : Int64) (x5 : Nat) (m : Mm) : Option (Mm) := fR_Rows_walkOn N S 8 x1 x3 x5 m
theorem e_Rows_walkOn {xs : Nat → Int32} {L : Nat} {al : Bool} (N : Nat) {d : Nat} (hd : 60 ≤ d) {S : St} (hSh : ShC S) {x1 : Int64} {x3 : Int64} {x5 : Nat} (hx5 : x5 ∈ eKl) {m : Mm} {mf : Mm} (h : f_Rows_walkOn N S x1 x3 x5 m = some mf) : Ev xs L al d 125 [.ref 30, .long x1, .long x3, .ref x5] (m, S) none (mf, S) := eR_Rows_walkOn N hSh 8 (by omega) hx5 h
def f_Sight_bestGift_L11 (N : Nat) (S : St) (x0 : Nat) (x1 : Int64) (x3 : Int32) (x4 : Int64) (k11 : Int32 → Mm → Option (Int32 × Mm)) : Nat → Int32 → Mm → Option (Int32 × Mm)
  | 0, _, _ => none
  | n11 + 1, x6, m => (if 3 ≤ x6 then k11 x6 m else b1 (f_Sight_holdable N S x0 m) fun r3 => b1 (f_Will_mayGive N S 10 x1 x6 r3 m) fun r4 => (if r4 = 0 then f_Sight_bestGift_L11 N S x0 x1 x3 x4 k11 n11 ((x6 + 1)) m else b1 (f_State_with N x1 x3 x6) fun r6 => b2 (f_Sight_worth N S x0 r6 m) fun r7 m7 => (if r7 = x4 then some (x6, m7) else f_Sight_bestGift_L11 N S x0 x1 x3 x4 k11 n11 ((x6 + 1)) m7)))
def f_Sight_bestGift (N : Nat) (S : St) (x0 : Nat) (x1 : Int64) (x3 : Int32) (m : Mm) : Option (Int32 × Mm) := b2 (f_Sight_given N S x0 x1 x3 m) fun r1 m1 => f_Sight_bestGift_L11 N S x0 x1 x3 r1 (fun (z9_6 : Int32) (m9 : Mm) => some (3, m9)) N 0 m1
set_option maxRecDepth 20000 in
set_option maxHeartbeats 4000000 in
theorem e_Sight_bestGift {xs : Nat → Int32} {L : Nat} {al : Bool} (N : Nat) {d : Nat} (hd : 78 ≤ d) {S : St} (hSh : ShC S) {x0 : Nat} {x1 : Int64} {x3 : Int32} (hx0 : x0 ∈ sKl) {m : Mm} {r0 : Int32} {mf : Mm} (h : f_Sight_bestGift N S x0 x1 x3 m = some (r0, mf)) : Ev xs L al d 110 [.ref x0, .long x1, .int x3] (m, S) (some (.int r0)) (mf, S) := by
  obtain ⟨d, rfl⟩ : ∃ e, d = e + 1 := ⟨d - 1, by omega⟩
  refine ev_of (by decide) (Nat.le_of_ble_eq_true rfl) ?_
  rw [f_Sight_bestGift] at h
  show RN xs L al (Ev xs L al d) 110 0 [(0, .ref x0), (1, .long x1), (3, .int x3)] [] (m, S) (some (.int r0)) (mf, S)
  refine rsn 3 (t := (3, [(0, .ref x0), (1, .long x1), (3, .int x3)], [.int x3, .long x1, .ref x0])) rfl ?_
  obtain ⟨r1, m1, g1, h⟩ := b2_some h
  refine rcV 105 x0 [.long x1, .int x3] rfl rfl rfl (hSh.kS hx0 _) (Nat.le_of_ble_eq_true rfl) rfl (e_Sight_given N (by omega) hSh hx0 g1) ?_
  show RN xs L al (Ev xs L al d) 110 6 [(0, .ref x0), (1, .long x1), (3, .int x3)] [.long r1] (m1, S) (some (.int r0)) (mf, S)
  refine rsn 3 (t := (11, [(6, .int 0), (4, .long r1), (0, .ref x0), (1, .long x1), (3, .int x3)], [])) rfl ?_
  have ex11 : ∀ (z9_6 : Int32) (m9 : Mm), (some (3, m9)) = some (r0, mf) → RN xs L al (Ev xs L al d) 110 60 [] [] (m9, S) (some (.int r0)) (mf, S) := by
    intro z9_6 m9 h
    try dsimp only at h
    refine rsn 1 (t := (61, [], [.int 3])) rfl ?_
    obtain ⟨h, h2⟩ := Prod.mk.inj (Option.some.inj h)
    subst h
    subst h2
    exact rret rfl ⟨rfl, rfl, _, _, rfl, rfl, rfl, rfl⟩
  have lp11 : ∀ (n : Nat) (y10_6 : Int32) (m10 : Mm), (f_Sight_bestGift_L11 N S x0 x1 x3 r1 (fun (z9_6 : Int32) (m9 : Mm) => some (3, m9)) n y10_6 m10) = some (r0, mf) → RN xs L al (Ev xs L al d) 110 11 [(0, .ref x0), (1, .long x1), (3, .int x3), (4, .long r1), (6, .int y10_6)] [] (m10, S) (some (.int r0)) (mf, S) := by
    intro n
    induction n with
    | zero => intro y10_6 m10 h; exact absurd h (by simp [f_Sight_bestGift_L11])
    | succ n11 ih11 =>
      intro y10_6 m10 h
      try dsimp only at h
      rw [f_Sight_bestGift_L11] at h
      try dsimp only at h
      refine rsn 2 (t := (14, [(0, .ref x0), (1, .long x1), (3, .int x3), (4, .long r1), (6, .int y10_6)], [.int 3, .int y10_6])) rfl ?_
      by_cases c11 : 3 ≤ y10_6
      · rw [if_pos c11] at h
        refine rjt (a := (60, [(0, .ref x0), (1, .long x1), (3, .int x3), (4, .long r1), (6, .int y10_6)], [])) (b := (17, [(0, .ref x0), (1, .long x1), (3, .int x3), (4, .long r1), (6, .int y10_6)], [])) rfl rfl c11 ?_
        exact rsub [] trivial trivial (ex11 y10_6 m10 h)
      · rw [if_neg c11] at h
        refine rjf (a := (60, [(0, .ref x0), (1, .long x1), (3, .int x3), (4, .long r1), (6, .int y10_6)], [])) (b := (17, [(0, .ref x0), (1, .long x1), (3, .int x3), (4, .long r1), (6, .int y10_6)], [])) rfl rfl c11 ?_
        refine rsn 1 (t := (18, [(0, .ref x0), (1, .long x1), (3, .int x3), (4, .long r1), (6, .int y10_6)], [.ref x0])) rfl ?_
        refine rgR rfl rfl rfl (hSh.kS hx0 _) (hSh.rS1 hx0 _) ?_
        refine rsn 3 (t := (25, [(0, .ref x0), (1, .long x1), (3, .int x3), (4, .long r1), (6, .int y10_6)], [.ref x0, .int y10_6, .long x1, .ref 10])) rfl ?_
        obtain ⟨r12, g12, h⟩ := b1_some h
        refine rcV 106 x0 [] rfl rfl rfl (hSh.kS hx0 _) (Nat.le_of_ble_eq_true rfl) rfl (e_Sight_holdable N (by omega) hSh hx0 g12) ?_
        show RN xs L al (Ev xs L al d) 110 28 [(0, .ref x0), (1, .long x1), (3, .int x3), (4, .long r1), (6, .int y10_6)] [.int r12, .int y10_6, .long x1, .ref 10] (m10, S) (some (.int r0)) (mf, S)
        obtain ⟨r13, g13, h⟩ := b1_some h
        refine rcV 67 10 [.long x1, .int y10_6, .int r12] rfl rfl rfl (hSh.1.k 10 rfl _) (Nat.le_of_ble_eq_true rfl) rfl (e_Will_mayGive N (by omega) hSh (by decide) g13) ?_
        show RN xs L al (Ev xs L al d) 110 31 [(0, .ref x0), (1, .long x1), (3, .int x3), (4, .long r1), (6, .int y10_6)] [.int r13] (m10, S) (some (.int r0)) (mf, S)
        by_cases c14 : r13 = 0
        · rw [if_pos c14] at h
          refine rjt (a := (54, [(0, .ref x0), (1, .long x1), (3, .int x3), (4, .long r1), (6, .int y10_6)], [])) (b := (34, [(0, .ref x0), (1, .long x1), (3, .int x3), (4, .long r1), (6, .int y10_6)], [])) rfl rfl c14 ?_
          refine rsn 2 (t := (11, [(6, .int ((y10_6 + 1))), (0, .ref x0), (1, .long x1), (3, .int x3), (4, .long r1)], [])) rfl ?_
          exact rsub [(0, .ref x0), (1, .long x1), (3, .int x3), (4, .long r1), (6, .int ((y10_6 + 1)))] ⟨rfl, ⟨rfl, ⟨rfl, ⟨rfl, ⟨rfl, trivial⟩⟩⟩⟩⟩ ⟨rfl, ⟨rfl, ⟨rfl, ⟨rfl, ⟨rfl, trivial⟩⟩⟩⟩⟩ (ih11 ((y10_6 + 1)) m10 h)
        · rw [if_neg c14] at h
          refine rjf (a := (54, [(0, .ref x0), (1, .long x1), (3, .int x3), (4, .long r1), (6, .int y10_6)], [])) (b := (34, [(0, .ref x0), (1, .long x1), (3, .int x3), (4, .long r1), (6, .int y10_6)], [])) rfl rfl c14 ?_
          refine rsn 4 (t := (39, [(0, .ref x0), (1, .long x1), (3, .int x3), (4, .long r1), (6, .int y10_6)], [.int y10_6, .int x3, .long x1, .ref x0])) rfl ?_
          obtain ⟨r15, g15, h⟩ := b1_some h
          refine rcS 70 [.long x1, .int x3, .int y10_6] rfl rfl rfl (Nat.le_of_ble_eq_true rfl) rfl (e_State_with N (by omega) g15) ?_
          show RN xs L al (Ev xs L al d) 110 42 [(0, .ref x0), (1, .long x1), (3, .int x3), (4, .long r1), (6, .int y10_6)] [.long r15, .ref x0] (m10, S) (some (.int r0)) (mf, S)
          obtain ⟨r16, m16, g16, h⟩ := b2_some h
          refine rcV 101 x0 [.long r15] rfl rfl rfl (hSh.kS hx0 _) (Nat.le_of_ble_eq_true rfl) rfl (e_Sight_worth N (by omega) hSh hx0 g16) ?_
          show RN xs L al (Ev xs L al d) 110 45 [(0, .ref x0), (1, .long x1), (3, .int x3), (4, .long r1), (6, .int y10_6)] [.long r16] (m16, S) (some (.int r0)) (mf, S)
          refine rsn 2 (t := (48, [(0, .ref x0), (1, .long x1), (3, .int x3), (4, .long r1), (6, .int y10_6)], [.int ((lg_cmp r16 r1))])) rfl ?_
          by_cases c17 : r16 = r1
          · rw [if_pos c17] at h
            refine rjf (a := (54, [(0, .ref x0), (1, .long x1), (3, .int x3), (4, .long r1), (6, .int y10_6)], [])) (b := (51, [(0, .ref x0), (1, .long x1), (3, .int x3), (4, .long r1), (6, .int y10_6)], [])) rfl rfl (fun q => q (lgc_eq.mpr c17)) ?_
            refine rsn 1 (t := (53, [(0, .ref x0), (1, .long x1), (3, .int x3), (4, .long r1), (6, .int y10_6)], [.int y10_6])) rfl ?_
            obtain ⟨h, h2⟩ := Prod.mk.inj (Option.some.inj h)
            subst h
            subst h2
            exact rret rfl ⟨rfl, rfl, _, _, rfl, rfl, rfl, rfl⟩
          · rw [if_neg c17] at h
            refine rjt (a := (54, [(0, .ref x0), (1, .long x1), (3, .int x3), (4, .long r1), (6, .int y10_6)], [])) (b := (51, [(0, .ref x0), (1, .long x1), (3, .int x3), (4, .long r1), (6, .int y10_6)], [])) rfl rfl (fun q => c17 (lgc_eq.mp q)) ?_
            refine rsn 2 (t := (11, [(6, .int ((y10_6 + 1))), (0, .ref x0), (1, .long x1), (3, .int x3), (4, .long r1)], [])) rfl ?_
            exact rsub [(0, .ref x0), (1, .long x1), (3, .int x3), (4, .long r1), (6, .int ((y10_6 + 1)))] ⟨rfl, ⟨rfl, ⟨rfl, ⟨rfl, ⟨rfl, trivial⟩⟩⟩⟩⟩ ⟨rfl, ⟨rfl, ⟨rfl, ⟨rfl, ⟨rfl, trivial⟩⟩⟩⟩⟩ (ih11 ((y10_6 + 1)) m16 h)
  exact rsub [(0, .ref x0), (1, .long x1), (3, .int x3), (4, .long r1), (6, .int 0)] ⟨rfl, ⟨rfl, ⟨rfl, ⟨rfl, ⟨rfl, trivial⟩⟩⟩⟩⟩ ⟨rfl, ⟨rfl, ⟨rfl, ⟨rfl, ⟨rfl, trivial⟩⟩⟩⟩⟩ (lp11 N 0 m1 h)
def f_Sight_worstAlt_L11 (N : Nat) (S : St) (x0 : Nat) (x1 : Int64) (x3 : Int32) (x4 : Int64) (k11 : Int32 → Mm → Option (Int32 × Mm)) : Nat → Int32 → Mm → Option (Int32 × Mm)
  | 0, _, _ => none
  | n11 + 1, x6, m => b1 (f_Will_alts N S 10 x3 m) fun r2 => (if ((r2 - 1)) ≤ x6 then k11 x6 m else b2 (f_Sight_afterAlt N S x0 x1 x3 x6 m) fun r4 m4 => (if r4 = x4 then k11 x6 m4 else f_Sight_worstAlt_L11 N S x0 x1 x3 x4 k11 n11 ((x6 + 1)) m4))
def f_Sight_worstAlt (N : Nat) (S : St) (x0 : Nat) (x1 : Int64) (x3 : Int32) (m : Mm) : Option (Int32 × Mm) := b2 (f_Sight_least N S x0 x1 x3 m) fun r1 m1 => f_Sight_worstAlt_L11 N S x0 x1 x3 r1 (fun (z6_6 : Int32) (m6 : Mm) => some (z6_6, m6)) N 0 m1
set_option maxRecDepth 20000 in
set_option maxHeartbeats 4000000 in
theorem e_Sight_worstAlt {xs : Nat → Int32} {L : Nat} {al : Bool} (N : Nat) {d : Nat} (hd : 77 ≤ d) {S : St} (hSh : ShC S) {x0 : Nat} {x1 : Int64} {x3 : Int32} (hx0 : x0 ∈ sKl) {m : Mm} {r0 : Int32} {mf : Mm} (h : f_Sight_worstAlt N S x0 x1 x3 m = some (r0, mf)) : Ev xs L al d 112 [.ref x0, .long x1, .int x3] (m, S) (some (.int r0)) (mf, S) := by
  obtain ⟨d, rfl⟩ : ∃ e, d = e + 1 := ⟨d - 1, by omega⟩
  refine ev_of (by decide) (Nat.le_of_ble_eq_true rfl) ?_
  rw [f_Sight_worstAlt] at h
  show RN xs L al (Ev xs L al d) 112 0 [(0, .ref x0), (1, .long x1), (3, .int x3)] [] (m, S) (some (.int r0)) (mf, S)
  refine rsn 3 (t := (3, [(0, .ref x0), (1, .long x1), (3, .int x3)], [.int x3, .long x1, .ref x0])) rfl ?_
  obtain ⟨r1, m1, g1, h⟩ := b2_some h
  refine rcV 107 x0 [.long x1, .int x3] rfl rfl rfl (hSh.kS hx0 _) (Nat.le_of_ble_eq_true rfl) rfl (e_Sight_least N (by omega) hSh hx0 g1) ?_
  show RN xs L al (Ev xs L al d) 112 6 [(0, .ref x0), (1, .long x1), (3, .int x3)] [.long r1] (m1, S) (some (.int r0)) (mf, S)
  refine rsn 3 (t := (11, [(6, .int 0), (4, .long r1), (0, .ref x0), (1, .long x1), (3, .int x3)], [])) rfl ?_
  have ex11 : ∀ (z6_6 : Int32) (m6 : Mm), (some (z6_6, m6)) = some (r0, mf) → RN xs L al (Ev xs L al d) 112 46 [(6, .int z6_6)] [] (m6, S) (some (.int r0)) (mf, S) := by
    intro z6_6 m6 h
    try dsimp only at h
    refine rsn 1 (t := (48, [(6, .int z6_6)], [.int z6_6])) rfl ?_
    obtain ⟨h, h2⟩ := Prod.mk.inj (Option.some.inj h)
    subst h
    subst h2
    exact rret rfl ⟨rfl, rfl, _, _, rfl, rfl, rfl, rfl⟩
  have lp11 : ∀ (n : Nat) (y7_6 : Int32) (m7 : Mm), (f_Sight_worstAlt_L11 N S x0 x1 x3 r1 (fun (z6_6 : Int32) (m6 : Mm) => some (z6_6, m6)) n y7_6 m7) = some (r0, mf) → RN xs L al (Ev xs L al d) 112 11 [(0, .ref x0), (1, .long x1), (3, .int x3), (4, .long r1), (6, .int y7_6)] [] (m7, S) (some (.int r0)) (mf, S) := by
    intro n
    induction n with
    | zero => intro y7_6 m7 h; exact absurd h (by simp [f_Sight_worstAlt_L11])
    | succ n11 ih11 =>
      intro y7_6 m7 h
      try dsimp only at h
      rw [f_Sight_worstAlt_L11] at h
      try dsimp only at h
      refine rsn 2 (t := (14, [(0, .ref x0), (1, .long x1), (3, .int x3), (4, .long r1), (6, .int y7_6)], [.ref x0, .int y7_6])) rfl ?_
      refine rgR rfl rfl rfl (hSh.kS hx0 _) (hSh.rS1 hx0 _) ?_
      refine rsn 1 (t := (18, [(0, .ref x0), (1, .long x1), (3, .int x3), (4, .long r1), (6, .int y7_6)], [.int x3, .ref 10, .int y7_6])) rfl ?_
      obtain ⟨r8, g8, h⟩ := b1_some h
      refine rcV 48 10 [.int x3] rfl rfl rfl (hSh.1.k 10 rfl _) (Nat.le_of_ble_eq_true rfl) rfl (e_Will_alts N (by omega) hSh (by decide) g8) ?_
      show RN xs L al (Ev xs L al d) 112 21 [(0, .ref x0), (1, .long x1), (3, .int x3), (4, .long r1), (6, .int y7_6)] [.int r8, .int y7_6] (m7, S) (some (.int r0)) (mf, S)
      refine rsn 2 (t := (23, [(0, .ref x0), (1, .long x1), (3, .int x3), (4, .long r1), (6, .int y7_6)], [.int ((r8 - 1)), .int y7_6])) rfl ?_
      by_cases c9 : ((r8 - 1)) ≤ y7_6
      · rw [if_pos c9] at h
        refine rjt (a := (46, [(0, .ref x0), (1, .long x1), (3, .int x3), (4, .long r1), (6, .int y7_6)], [])) (b := (26, [(0, .ref x0), (1, .long x1), (3, .int x3), (4, .long r1), (6, .int y7_6)], [])) rfl rfl c9 ?_
        exact rsub [(6, .int y7_6)] ⟨rfl, trivial⟩ ⟨rfl, trivial⟩ (ex11 y7_6 m7 h)
      · rw [if_neg c9] at h
        refine rjf (a := (46, [(0, .ref x0), (1, .long x1), (3, .int x3), (4, .long r1), (6, .int y7_6)], [])) (b := (26, [(0, .ref x0), (1, .long x1), (3, .int x3), (4, .long r1), (6, .int y7_6)], [])) rfl rfl c9 ?_
        refine rsn 4 (t := (31, [(0, .ref x0), (1, .long x1), (3, .int x3), (4, .long r1), (6, .int y7_6)], [.int y7_6, .int x3, .long x1, .ref x0])) rfl ?_
        obtain ⟨r10, m10, g10, h⟩ := b2_some h
        refine rcV 104 x0 [.long x1, .int x3, .int y7_6] rfl rfl rfl (hSh.kS hx0 _) (Nat.le_of_ble_eq_true rfl) rfl (e_Sight_afterAlt N (by omega) hSh hx0 g10) ?_
        show RN xs L al (Ev xs L al d) 112 34 [(0, .ref x0), (1, .long x1), (3, .int x3), (4, .long r1), (6, .int y7_6)] [.long r10] (m10, S) (some (.int r0)) (mf, S)
        refine rsn 2 (t := (37, [(0, .ref x0), (1, .long x1), (3, .int x3), (4, .long r1), (6, .int y7_6)], [.int ((lg_cmp r10 r1))])) rfl ?_
        by_cases c11 : r10 = r1
        · rw [if_pos c11] at h
          refine rjt (a := (46, [(0, .ref x0), (1, .long x1), (3, .int x3), (4, .long r1), (6, .int y7_6)], [])) (b := (40, [(0, .ref x0), (1, .long x1), (3, .int x3), (4, .long r1), (6, .int y7_6)], [])) rfl rfl (lgc_eq.mpr c11) ?_
          exact rsub [(6, .int y7_6)] ⟨rfl, trivial⟩ ⟨rfl, trivial⟩ (ex11 y7_6 m10 h)
        · rw [if_neg c11] at h
          refine rjf (a := (46, [(0, .ref x0), (1, .long x1), (3, .int x3), (4, .long r1), (6, .int y7_6)], [])) (b := (40, [(0, .ref x0), (1, .long x1), (3, .int x3), (4, .long r1), (6, .int y7_6)], [])) rfl rfl (fun q => c11 (lgc_eq.mp q)) ?_
          refine rsn 2 (t := (11, [(6, .int ((y7_6 + 1))), (0, .ref x0), (1, .long x1), (3, .int x3), (4, .long r1)], [])) rfl ?_
          exact rsub [(0, .ref x0), (1, .long x1), (3, .int x3), (4, .long r1), (6, .int ((y7_6 + 1)))] ⟨rfl, ⟨rfl, ⟨rfl, ⟨rfl, ⟨rfl, trivial⟩⟩⟩⟩⟩ ⟨rfl, ⟨rfl, ⟨rfl, ⟨rfl, ⟨rfl, trivial⟩⟩⟩⟩⟩ (ih11 ((y7_6 + 1)) m10 h)
  exact rsub [(0, .ref x0), (1, .long x1), (3, .int x3), (4, .long r1), (6, .int 0)] ⟨rfl, ⟨rfl, ⟨rfl, ⟨rfl, ⟨rfl, trivial⟩⟩⟩⟩⟩ ⟨rfl, ⟨rfl, ⟨rfl, ⟨rfl, ⟨rfl, trivial⟩⟩⟩⟩⟩ (lp11 N 0 m1 h)
def f_Rows_greatest_L17 (N : Nat) (S : St) (x1 : Int64) (x3 : Int32) (x4 : Nat) (x5 : Int32) (m : Mm) (k17 : Int64 → Int32 → Option (Int64 × Mm)) : Nat → Int64 → Int32 → Option (Int64 × Mm)
  | 0, _, _ => none
  | n17 + 1, x6, x8 => (if ((mI m 10 1)) ≤ x8 then k17 x6 x8 else b1 (f_Rows_digit N x3 ((x8 - x5))) fun r3 => b1 (f_Rows_traced N S x6 x8 r3 m) fun r4 => f_Rows_greatest_L17 N S x1 x3 x4 x5 m k17 n17 r4 ((x8 + 1)))
def f_Rows_greatest (N : Nat) (S : St) (x1 : Int64) (x3 : Int32) (x4 : Nat) (m : Mm) : Option (Int64 × Mm) := b1 (f_State_dayOf N x1) fun r1 => f_Rows_greatest_L17 N S x1 x3 x4 r1 m (fun (z5_6 : Int64) (z5_8 : Int32) => b1 (f_Rows_ending N x1 z5_6) fun r6 => b2 (f_Rows_spread N S r6 z5_6 0 0 x4 m) fun r7 m7 => some (r7, m7)) N ((x1 &&& ((-68719476736)))) r1
set_option maxRecDepth 20000 in
set_option maxHeartbeats 4000000 in
theorem e_Rows_greatest {xs : Nat → Int32} {L : Nat} {al : Bool} (N : Nat) {d : Nat} (hd : 51 ≤ d) {S : St} (hSh : ShC S) {x1 : Int64} {x3 : Int32} {x4 : Nat} (hx4 : x4 ∈ eKl) {m : Mm} {r0 : Int64} {mf : Mm} (h : f_Rows_greatest N S x1 x3 x4 m = some (r0, mf)) : Ev xs L al d 117 [.ref 30, .long x1, .int x3, .ref x4] (m, S) (some (.long r0)) (mf, S) := by
  obtain ⟨d, rfl⟩ : ∃ e, d = e + 1 := ⟨d - 1, by omega⟩
  refine ev_of (by decide) (Nat.le_of_ble_eq_true rfl) ?_
  rw [f_Rows_greatest] at h
  show RN xs L al (Ev xs L al d) 117 0 [(0, .ref 30), (1, .long x1), (3, .int x3), (4, .ref x4)] [] (m, S) (some (.long r0)) (mf, S)
  refine rsn 1 (t := (1, [(0, .ref 30), (1, .long x1), (3, .int x3), (4, .ref x4)], [.long x1])) rfl ?_
  obtain ⟨r1, g1, h⟩ := b1_some h
  refine rcS 63 [.long x1] rfl rfl rfl (Nat.le_of_ble_eq_true rfl) rfl (e_State_dayOf N (by omega) g1) ?_
  show RN xs L al (Ev xs L al d) 117 4 [(0, .ref 30), (1, .long x1), (3, .int x3), (4, .ref x4)] [.int r1] (m, S) (some (.long r0)) (mf, S)
  refine rsn 7 (t := (17, [(8, .int r1), (6, .long ((x1 &&& ((-68719476736))))), (5, .int r1), (0, .ref 30), (1, .long x1), (3, .int x3), (4, .ref x4)], [])) rfl ?_
  have ex17 : ∀ (z5_6 : Int64) (z5_8 : Int32), (b1 (f_Rows_ending N x1 z5_6) fun r6 => b2 (f_Rows_spread N S r6 z5_6 0 0 x4 m) fun r7 m7 => some (r7, m7)) = some (r0, mf) → RN xs L al (Ev xs L al d) 117 54 [(0, .ref 30), (1, .long x1), (4, .ref x4), (6, .long z5_6)] [] (m, S) (some (.long r0)) (mf, S) := by
    intro z5_6 z5_8 h
    try dsimp only at h
    refine rsn 3 (t := (58, [(0, .ref 30), (1, .long x1), (4, .ref x4), (6, .long z5_6)], [.long z5_6, .long x1, .ref 30])) rfl ?_
    obtain ⟨r6, g6, h⟩ := b1_some h
    refine rcS 119 [.long x1, .long z5_6] rfl rfl rfl (Nat.le_of_ble_eq_true rfl) rfl (e_Rows_ending N (by omega) g6) ?_
    show RN xs L al (Ev xs L al d) 117 61 [(0, .ref 30), (1, .long x1), (4, .ref x4), (6, .long z5_6)] [.long r6, .ref 30] (m, S) (some (.long r0)) (mf, S)
    refine rsn 4 (t := (67, [(0, .ref 30), (1, .long x1), (4, .ref x4), (6, .long z5_6)], [.ref x4, .int 0, .int 0, .long z5_6, .long r6, .ref 30])) rfl ?_
    obtain ⟨r7, m7, g7, h⟩ := b2_some h
    refine rcV 120 30 [.long r6, .long z5_6, .int 0, .int 0, .ref x4] rfl rfl rfl (hSh.1.k 30 rfl _) (Nat.le_of_ble_eq_true rfl) rfl (e_Rows_spread N (by omega) hSh hx4 g7) ?_
    show RN xs L al (Ev xs L al d) 117 70 [(0, .ref 30), (1, .long x1), (4, .ref x4), (6, .long z5_6)] [.long r7] (m7, S) (some (.long r0)) (mf, S)
    obtain ⟨h, h2⟩ := Prod.mk.inj (Option.some.inj h)
    subst h
    subst h2
    exact rret rfl ⟨rfl, rfl, _, rfl, rfl, rfl⟩
  have lp17 : ∀ (n : Nat) (y8_6 : Int64) (y8_8 : Int32), (f_Rows_greatest_L17 N S x1 x3 x4 r1 m (fun (z5_6 : Int64) (z5_8 : Int32) => b1 (f_Rows_ending N x1 z5_6) fun r6 => b2 (f_Rows_spread N S r6 z5_6 0 0 x4 m) fun r7 m7 => some (r7, m7)) n y8_6 y8_8) = some (r0, mf) → RN xs L al (Ev xs L al d) 117 17 [(0, .ref 30), (1, .long x1), (3, .int x3), (4, .ref x4), (5, .int r1), (6, .long y8_6), (8, .int y8_8)] [] (m, S) (some (.long r0)) (mf, S) := by
    intro n
    induction n with
    | zero => intro y8_6 y8_8 h; exact absurd h (by simp [f_Rows_greatest_L17])
    | succ n17 ih17 =>
      intro y8_6 y8_8 h
      try dsimp only at h
      rw [f_Rows_greatest_L17] at h
      try dsimp only at h
      refine rsn 2 (t := (20, [(0, .ref 30), (1, .long x1), (3, .int x3), (4, .ref x4), (5, .int r1), (6, .long y8_6), (8, .int y8_8)], [.ref 30, .int y8_8])) rfl ?_
      refine rgR rfl rfl rfl (hSh.1.k 30 rfl _) (hSh.1.r 100 rfl _) ?_
      refine pgI rfl rfl rfl (hSh.1.k 10 rfl _) ?_
      show RN xs L al (Ev xs L al d) 117 26 [(0, .ref 30), (1, .long x1), (3, .int x3), (4, .ref x4), (5, .int r1), (6, .long y8_6), (8, .int y8_8)] [.int ((mI m 10 1)), .int y8_8] (m, S) (some (.long r0)) (mf, S)
      by_cases c9 : ((mI m 10 1)) ≤ y8_8
      · rw [if_pos c9] at h
        refine rjt (a := (54, [(0, .ref 30), (1, .long x1), (3, .int x3), (4, .ref x4), (5, .int r1), (6, .long y8_6), (8, .int y8_8)], [])) (b := (29, [(0, .ref 30), (1, .long x1), (3, .int x3), (4, .ref x4), (5, .int r1), (6, .long y8_6), (8, .int y8_8)], [])) rfl rfl c9 ?_
        exact rsub [(0, .ref 30), (1, .long x1), (4, .ref x4), (6, .long y8_6)] ⟨rfl, ⟨rfl, ⟨rfl, ⟨rfl, trivial⟩⟩⟩⟩ ⟨rfl, ⟨rfl, ⟨rfl, ⟨rfl, trivial⟩⟩⟩⟩ (ex17 y8_6 y8_8 h)
      · rw [if_neg c9] at h
        refine rjf (a := (54, [(0, .ref 30), (1, .long x1), (3, .int x3), (4, .ref x4), (5, .int r1), (6, .long y8_6), (8, .int y8_8)], [])) (b := (29, [(0, .ref 30), (1, .long x1), (3, .int x3), (4, .ref x4), (5, .int r1), (6, .long y8_6), (8, .int y8_8)], [])) rfl rfl c9 ?_
        refine rsn 7 (t := (40, [(0, .ref 30), (1, .long x1), (3, .int x3), (4, .ref x4), (5, .int r1), (6, .long y8_6), (8, .int y8_8)], [.int ((y8_8 - r1)), .int x3, .int y8_8, .long y8_6, .ref 30])) rfl ?_
        obtain ⟨r10, g10, h⟩ := b1_some h
        refine rcS 115 [.int x3, .int ((y8_8 - r1))] rfl rfl rfl (Nat.le_of_ble_eq_true rfl) rfl (e_Rows_digit N (by omega) g10) ?_
        show RN xs L al (Ev xs L al d) 117 43 [(0, .ref 30), (1, .long x1), (3, .int x3), (4, .ref x4), (5, .int r1), (6, .long y8_6), (8, .int y8_8)] [.int r10, .int y8_8, .long y8_6, .ref 30] (m, S) (some (.long r0)) (mf, S)
        obtain ⟨r11, g11, h⟩ := b1_some h
        refine rcV 118 30 [.long y8_6, .int y8_8, .int r10] rfl rfl rfl (hSh.1.k 30 rfl _) (Nat.le_of_ble_eq_true rfl) rfl (e_Rows_traced N (by omega) hSh g11) ?_
        show RN xs L al (Ev xs L al d) 117 46 [(0, .ref 30), (1, .long x1), (3, .int x3), (4, .ref x4), (5, .int r1), (6, .long y8_6), (8, .int y8_8)] [.long r11] (m, S) (some (.long r0)) (mf, S)
        refine rsn 3 (t := (17, [(8, .int ((y8_8 + 1))), (6, .long r11), (0, .ref 30), (1, .long x1), (3, .int x3), (4, .ref x4), (5, .int r1)], [])) rfl ?_
        exact rsub [(0, .ref 30), (1, .long x1), (3, .int x3), (4, .ref x4), (5, .int r1), (6, .long r11), (8, .int ((y8_8 + 1)))] ⟨rfl, ⟨rfl, ⟨rfl, ⟨rfl, ⟨rfl, ⟨rfl, ⟨rfl, trivial⟩⟩⟩⟩⟩⟩⟩ ⟨rfl, ⟨rfl, ⟨rfl, ⟨rfl, ⟨rfl, ⟨rfl, ⟨rfl, trivial⟩⟩⟩⟩⟩⟩⟩ (ih17 r11 ((y8_8 + 1)) h)
  exact rsub [(0, .ref 30), (1, .long x1), (3, .int x3), (4, .ref x4), (5, .int r1), (6, .long ((x1 &&& ((-68719476736))))), (8, .int r1)] ⟨rfl, ⟨rfl, ⟨rfl, ⟨rfl, ⟨rfl, ⟨rfl, ⟨rfl, trivial⟩⟩⟩⟩⟩⟩⟩ ⟨rfl, ⟨rfl, ⟨rfl, ⟨rfl, ⟨rfl, ⟨rfl, ⟨rfl, trivial⟩⟩⟩⟩⟩⟩⟩ (lp17 N ((x1 &&& ((-68719476736)))) r1 h)
def f_Ways_outcome_L36 (N : Nat) (S : St) (rec : Int64 → Mm → Option (Int64 × Mm)) (x1 : Int64) (x3 : Int32) (k36 : Int64 → Int64 → Int32 → Mm → Option (Int64 × Mm)) : Nat → Int64 → Int64 → Int32 → Mm → Option (Int64 × Mm)
  | 0, _, _, _, _ => none
  | n36 + 1, x4, x6, x8, m => b1 (f_Will_alts N S 10 x3 m) fun r3 => (if r3 ≤ x8 then k36 x4 x6 x8 m else b1 (f_Will_thing N S 10 x3 x8 m) fun r5 => b1 (f_Will_passed N S 10 x1 x3 x8 m) fun r6 => (jn (fun (y7 : Int64) (m8 : Mm) => b2 (rec y7 m8) fun r9 m9 => b1 (f_Will_chance N S 10 x3 x8 m9) fun r10 => f_Ways_outcome_L36 N S rec x1 x3 k36 n36 ((x4 + ((r10.toInt64 * r9)))) ((if r9 < x6 then r9 else x6)) ((x8 + 1)) m9) (fun j123 => if r5 = ((-1)) then j123 r6 m else (jn (fun (s12 : Int32) (m13 : Mm) => b1 (f_State_with N r6 r5 s12) fun r14 => j123 r14 m13) (fun j110 => if ((mI m 97 2)) = 4 then b2 (f_Sight_bestGift N S 61 r6 r5 m) fun r17 m17 => j110 r17 m17 else b1 (f_Ways_gift N S r6 r5 m) fun r16 => j110 r16 m)))))
def fM_Ways_outcome (N : Nat) (S : St) (rec : Int64 → Mm → Option (Int64 × Mm)) (x1 : Int64) (m : Mm) : Option (Int64 × Mm) := b1 (f_State_dayOf N x1) fun r1 => (if r1 < ((mI m 10 1)) then f_Ways_outcome_L36 N S rec x1 r1 (fun (z18_4 : Int64) (z18_6 : Int64) (z18_8 : Int32) (m18 : Mm) => (if ((mI m18 97 3)) = 0 then some (z18_6, m18) else some (z18_4, m18))) N 0 9223372036854775807 0 m else b1 (S.1 97 4) fun t36 => b2 (f_Ends_value N S t36 x1 m) fun r37 m37 => some (r37, m37))
set_option maxRecDepth 20000 in
set_option maxHeartbeats 4000000 in
theorem eM_Ways_outcome {xs : Nat → Int32} {L : Nat} {al : Bool} (N : Nat) {S : St} {rec : Int64 → Mm → Option (Int64 × Mm)} {D0 : Nat} (hD : 79 ≤ D0) (hrec : ∀ {x1 : Int64} {m : Mm} {r0 : Int64} {mf : Mm}, rec x1 m = some (r0, mf) → Ev xs L al D0 130 [.ref 97, .long x1] (m, S) (some (.long r0)) (mf, S)) {d : Nat} (hd : D0 + 1 ≤ d) (hSh : ShC S) {x1 : Int64} {m : Mm} {r0 : Int64} {mf : Mm} (h : fM_Ways_outcome N S rec x1 m = some (r0, mf)) : Ev xs L al d 130 [.ref 97, .long x1] (m, S) (some (.long r0)) (mf, S) := by
  obtain ⟨d, rfl⟩ : ∃ e, d = e + 1 := ⟨d - 1, by omega⟩
  refine ev_of (by decide) (Nat.le_of_ble_eq_true rfl) ?_
  rw [fM_Ways_outcome] at h
  show RN xs L al (Ev xs L al d) 130 0 [(0, .ref 97), (1, .long x1)] [] (m, S) (some (.long r0)) (mf, S)
  refine rsn 1 (t := (1, [(0, .ref 97), (1, .long x1)], [.long x1])) rfl ?_
  obtain ⟨r1, g1, h⟩ := b1_some h
  refine rcS 63 [.long x1] rfl rfl rfl (Nat.le_of_ble_eq_true rfl) rfl (e_State_dayOf N (by omega) g1) ?_
  show RN xs L al (Ev xs L al d) 130 4 [(0, .ref 97), (1, .long x1)] [.int r1] (m, S) (some (.long r0)) (mf, S)
  refine rsn 3 (t := (7, [(3, .int r1), (0, .ref 97), (1, .long x1)], [.ref 97, .int r1])) rfl ?_
  refine rgR rfl rfl rfl (hSh.1.k 97 rfl _) (hSh.1.r 102 rfl _) ?_
  refine pgI rfl rfl rfl (hSh.1.k 10 rfl _) ?_
  show RN xs L al (Ev xs L al d) 130 13 [(3, .int r1), (0, .ref 97), (1, .long x1)] [.int ((mI m 10 1)), .int r1] (m, S) (some (.long r0)) (mf, S)
  by_cases c2 : r1 < ((mI m 10 1))
  · rw [if_pos c2] at h
    refine rjt (a := (25, [(3, .int r1), (0, .ref 97), (1, .long x1)], [])) (b := (16, [(3, .int r1), (0, .ref 97), (1, .long x1)], [])) rfl rfl c2 ?_
    refine rsn 6 (t := (36, [(8, .int 0), (6, .long 9223372036854775807), (4, .long 0), (3, .int r1), (0, .ref 97), (1, .long x1)], [])) rfl ?_
    have ex36 : ∀ (z18_4 : Int64) (z18_6 : Int64) (z18_8 : Int32) (m18 : Mm), ((if ((mI m18 97 3)) = 0 then some (z18_6, m18) else some (z18_4, m18))) = some (r0, mf) → RN xs L al (Ev xs L al d) 130 165 [(0, .ref 97), (4, .long z18_4), (6, .long z18_6)] [] (m18, S) (some (.long r0)) (mf, S) := by
      intro z18_4 z18_6 z18_8 m18 h
      try dsimp only at h
      refine rsn 1 (t := (166, [(0, .ref 97), (4, .long z18_4), (6, .long z18_6)], [.ref 97])) rfl ?_
      refine pgI rfl rfl rfl (hSh.1.k 97 rfl _) ?_
      show RN xs L al (Ev xs L al d) 130 169 [(0, .ref 97), (4, .long z18_4), (6, .long z18_6)] [.int ((mI m18 97 3))] (m18, S) (some (.long r0)) (mf, S)
      by_cases c19 : ((mI m18 97 3)) = 0
      · rw [if_pos c19] at h
        refine rjt (a := (177, [(0, .ref 97), (4, .long z18_4), (6, .long z18_6)], [])) (b := (172, [(0, .ref 97), (4, .long z18_4), (6, .long z18_6)], [])) rfl rfl c19 ?_
        refine rsn 1 (t := (179, [(0, .ref 97), (4, .long z18_4), (6, .long z18_6)], [.long z18_6])) rfl ?_
        obtain ⟨h, h2⟩ := Prod.mk.inj (Option.some.inj h)
        subst h
        subst h2
        exact rret rfl ⟨rfl, rfl, _, rfl, rfl, rfl⟩
      · rw [if_neg c19] at h
        refine rjf (a := (177, [(0, .ref 97), (4, .long z18_4), (6, .long z18_6)], [])) (b := (172, [(0, .ref 97), (4, .long z18_4), (6, .long z18_6)], [])) rfl rfl c19 ?_
        refine rsn 2 (t := (179, [(0, .ref 97), (4, .long z18_4), (6, .long z18_6)], [.long z18_4])) rfl ?_
        obtain ⟨h, h2⟩ := Prod.mk.inj (Option.some.inj h)
        subst h
        subst h2
        exact rret rfl ⟨rfl, rfl, _, rfl, rfl, rfl⟩
    have lp36 : ∀ (n : Nat) (y20_4 : Int64) (y20_6 : Int64) (y20_8 : Int32) (m20 : Mm), (f_Ways_outcome_L36 N S rec x1 r1 (fun (z18_4 : Int64) (z18_6 : Int64) (z18_8 : Int32) (m18 : Mm) => (if ((mI m18 97 3)) = 0 then some (z18_6, m18) else some (z18_4, m18))) n y20_4 y20_6 y20_8 m20) = some (r0, mf) → RN xs L al (Ev xs L al d) 130 36 [(0, .ref 97), (1, .long x1), (3, .int r1), (4, .long y20_4), (6, .long y20_6), (8, .int y20_8)] [] (m20, S) (some (.long r0)) (mf, S) := by
      intro n
      induction n with
      | zero => intro y20_4 y20_6 y20_8 m20 h; exact absurd h (by simp [f_Ways_outcome_L36])
      | succ n36 ih36 =>
        intro y20_4 y20_6 y20_8 m20 h
        try dsimp only at h
        rw [f_Ways_outcome_L36] at h
        try dsimp only at h
        refine rsn 2 (t := (39, [(0, .ref 97), (1, .long x1), (3, .int r1), (4, .long y20_4), (6, .long y20_6), (8, .int y20_8)], [.ref 97, .int y20_8])) rfl ?_
        refine rgR rfl rfl rfl (hSh.1.k 97 rfl _) (hSh.1.r 102 rfl _) ?_
        refine rsn 1 (t := (43, [(0, .ref 97), (1, .long x1), (3, .int r1), (4, .long y20_4), (6, .long y20_6), (8, .int y20_8)], [.int r1, .ref 10, .int y20_8])) rfl ?_
        obtain ⟨r21, g21, h⟩ := b1_some h
        refine rcV 48 10 [.int r1] rfl rfl rfl (hSh.1.k 10 rfl _) (Nat.le_of_ble_eq_true rfl) rfl (e_Will_alts N (by omega) hSh (by decide) g21) ?_
        show RN xs L al (Ev xs L al d) 130 46 [(0, .ref 97), (1, .long x1), (3, .int r1), (4, .long y20_4), (6, .long y20_6), (8, .int y20_8)] [.int r21, .int y20_8] (m20, S) (some (.long r0)) (mf, S)
        by_cases c22 : r21 ≤ y20_8
        · rw [if_pos c22] at h
          refine rjt (a := (165, [(0, .ref 97), (1, .long x1), (3, .int r1), (4, .long y20_4), (6, .long y20_6), (8, .int y20_8)], [])) (b := (49, [(0, .ref 97), (1, .long x1), (3, .int r1), (4, .long y20_4), (6, .long y20_6), (8, .int y20_8)], [])) rfl rfl c22 ?_
          exact rsub [(0, .ref 97), (4, .long y20_4), (6, .long y20_6)] ⟨rfl, ⟨rfl, ⟨rfl, trivial⟩⟩⟩ ⟨rfl, ⟨rfl, ⟨rfl, trivial⟩⟩⟩ (ex36 y20_4 y20_6 y20_8 m20 h)
        · rw [if_neg c22] at h
          refine rjf (a := (165, [(0, .ref 97), (1, .long x1), (3, .int r1), (4, .long y20_4), (6, .long y20_6), (8, .int y20_8)], [])) (b := (49, [(0, .ref 97), (1, .long x1), (3, .int r1), (4, .long y20_4), (6, .long y20_6), (8, .int y20_8)], [])) rfl rfl c22 ?_
          refine rsn 1 (t := (50, [(0, .ref 97), (1, .long x1), (3, .int r1), (4, .long y20_4), (6, .long y20_6), (8, .int y20_8)], [.ref 97])) rfl ?_
          refine rgR rfl rfl rfl (hSh.1.k 97 rfl _) (hSh.1.r 102 rfl _) ?_
          refine rsn 2 (t := (56, [(0, .ref 97), (1, .long x1), (3, .int r1), (4, .long y20_4), (6, .long y20_6), (8, .int y20_8)], [.int y20_8, .int r1, .ref 10])) rfl ?_
          obtain ⟨r23, g23, h⟩ := b1_some h
          refine rcV 64 10 [.int r1, .int y20_8] rfl rfl rfl (hSh.1.k 10 rfl _) (Nat.le_of_ble_eq_true rfl) rfl (e_Will_thing N (by omega) hSh (by decide) g23) ?_
          show RN xs L al (Ev xs L al d) 130 59 [(0, .ref 97), (1, .long x1), (3, .int r1), (4, .long y20_4), (6, .long y20_6), (8, .int y20_8)] [.int r23] (m20, S) (some (.long r0)) (mf, S)
          refine rsn 2 (t := (62, [(9, .int r23), (0, .ref 97), (1, .long x1), (3, .int r1), (4, .long y20_4), (6, .long y20_6), (8, .int y20_8)], [.ref 97])) rfl ?_
          refine rgR rfl rfl rfl (hSh.1.k 97 rfl _) (hSh.1.r 102 rfl _) ?_
          refine rsn 3 (t := (69, [(9, .int r23), (0, .ref 97), (1, .long x1), (3, .int r1), (4, .long y20_4), (6, .long y20_6), (8, .int y20_8)], [.int y20_8, .int r1, .long x1, .ref 10])) rfl ?_
          obtain ⟨r24, g24, h⟩ := b1_some h
          refine rcV 65 10 [.long x1, .int r1, .int y20_8] rfl rfl rfl (hSh.1.k 10 rfl _) (Nat.le_of_ble_eq_true rfl) rfl (e_Will_passed N (by omega) hSh (by decide) g24) ?_
          show RN xs L al (Ev xs L al d) 130 72 [(9, .int r23), (0, .ref 97), (1, .long x1), (3, .int r1), (4, .long y20_4), (6, .long y20_6), (8, .int y20_8)] [.long r24] (m20, S) (some (.long r0)) (mf, S)
          refine rsn 3 (t := (77, [(10, .long r24), (9, .int r23), (0, .ref 97), (1, .long x1), (3, .int r1), (4, .long y20_4), (6, .long y20_6), (8, .int y20_8)], [.int ((-1)), .int r23])) rfl ?_
          have jp123 : ∀ (y25 : Int64) (m26 : Mm), (b2 (rec y25 m26) fun r27 m27 => b1 (f_Will_chance N S 10 r1 y20_8 m27) fun r28 => f_Ways_outcome_L36 N S rec x1 r1 (fun (z18_4 : Int64) (z18_6 : Int64) (z18_8 : Int32) (m18 : Mm) => (if ((mI m18 97 3)) = 0 then some (z18_6, m18) else some (z18_4, m18))) n36 ((y20_4 + ((r28.toInt64 * r27)))) ((if r27 < y20_6 then r27 else y20_6)) ((y20_8 + 1)) m27) = some (r0, mf) → RN xs L al (Ev xs L al d) 130 123 [(0, .ref 97), (1, .long x1), (3, .int r1), (4, .long y20_4), (6, .long y20_6), (8, .int y20_8), (10, .long y25)] [] (m26, S) (some (.long r0)) (mf, S) := by
            intro y25 m26 h
            try dsimp only at h
            refine rsn 2 (t := (126, [(0, .ref 97), (1, .long x1), (3, .int r1), (4, .long y20_4), (6, .long y20_6), (8, .int y20_8), (10, .long y25)], [.long y25, .ref 97])) rfl ?_
            obtain ⟨r27, m27, g27, h⟩ := b2_some h
            refine rcV 130 97 [.long y25] rfl rfl rfl (hSh.1.k 97 rfl _) (Nat.le_of_ble_eq_true rfl) rfl (Ev_up (hrec g27) (by omega)) ?_
            show RN xs L al (Ev xs L al d) 130 129 [(0, .ref 97), (1, .long x1), (3, .int r1), (4, .long y20_4), (6, .long y20_6), (8, .int y20_8), (10, .long y25)] [.long r27] (m27, S) (some (.long r0)) (mf, S)
            refine rsn 3 (t := (134, [(12, .long r27), (0, .ref 97), (1, .long x1), (3, .int r1), (4, .long y20_4), (6, .long y20_6), (8, .int y20_8), (10, .long y25)], [.ref 97, .long y20_4])) rfl ?_
            refine rgR rfl rfl rfl (hSh.1.k 97 rfl _) (hSh.1.r 102 rfl _) ?_
            refine rsn 2 (t := (140, [(12, .long r27), (0, .ref 97), (1, .long x1), (3, .int r1), (4, .long y20_4), (6, .long y20_6), (8, .int y20_8), (10, .long y25)], [.int y20_8, .int r1, .ref 10, .long y20_4])) rfl ?_
            obtain ⟨r28, g28, h⟩ := b1_some h
            refine rcV 60 10 [.int r1, .int y20_8] rfl rfl rfl (hSh.1.k 10 rfl _) (Nat.le_of_ble_eq_true rfl) rfl (e_Will_chance N (by omega) hSh (by decide) g28) ?_
            show RN xs L al (Ev xs L al d) 130 143 [(12, .long r27), (0, .ref 97), (1, .long x1), (3, .int r1), (4, .long y20_4), (6, .long y20_6), (8, .int y20_8), (10, .long y25)] [.int r28, .long y20_4] (m27, S) (some (.long r0)) (mf, S)
            refine rsn 7 (t := (154, [(4, .long ((y20_4 + ((r28.toInt64 * r27))))), (12, .long r27), (0, .ref 97), (1, .long x1), (3, .int r1), (6, .long y20_6), (8, .int y20_8), (10, .long y25)], [.long r27, .long y20_6])) rfl ?_
            refine rm (st1 := [.long ((if r27 < y20_6 then r27 else y20_6))]) rfl ⟨rfl, rfl, 3, [], rfl, Nat.le_of_ble_eq_true rfl, Or.inr (Or.inr (Or.inr ⟨rfl, _, _, rfl, rfl⟩))⟩ ?_
            refine rsn 3 (t := (36, [(8, .int ((y20_8 + 1))), (6, .long ((if r27 < y20_6 then r27 else y20_6))), (4, .long ((y20_4 + ((r28.toInt64 * r27))))), (12, .long r27), (0, .ref 97), (1, .long x1), (3, .int r1), (10, .long y25)], [])) rfl ?_
            exact rsub [(0, .ref 97), (1, .long x1), (3, .int r1), (4, .long ((y20_4 + ((r28.toInt64 * r27))))), (6, .long ((if r27 < y20_6 then r27 else y20_6))), (8, .int ((y20_8 + 1)))] ⟨rfl, ⟨rfl, ⟨rfl, ⟨rfl, ⟨rfl, ⟨rfl, trivial⟩⟩⟩⟩⟩⟩ ⟨rfl, ⟨rfl, ⟨rfl, ⟨rfl, ⟨rfl, ⟨rfl, trivial⟩⟩⟩⟩⟩⟩ (ih36 ((y20_4 + ((r28.toInt64 * r27)))) ((if r27 < y20_6 then r27 else y20_6)) ((y20_8 + 1)) m27 h)
          rw [jn] at h
          try dsimp only at h
          by_cases c29 : r23 = ((-1))
          · rw [if_pos c29] at h
            refine rjt (a := (123, [(10, .long r24), (9, .int r23), (0, .ref 97), (1, .long x1), (3, .int r1), (4, .long y20_4), (6, .long y20_6), (8, .int y20_8)], [])) (b := (80, [(10, .long r24), (9, .int r23), (0, .ref 97), (1, .long x1), (3, .int r1), (4, .long y20_4), (6, .long y20_6), (8, .int y20_8)], [])) rfl rfl c29 ?_
            exact rsub [(0, .ref 97), (1, .long x1), (3, .int r1), (4, .long y20_4), (6, .long y20_6), (8, .int y20_8), (10, .long r24)] ⟨rfl, ⟨rfl, ⟨rfl, ⟨rfl, ⟨rfl, ⟨rfl, ⟨rfl, trivial⟩⟩⟩⟩⟩⟩⟩ ⟨rfl, ⟨rfl, ⟨rfl, ⟨rfl, ⟨rfl, ⟨rfl, ⟨rfl, trivial⟩⟩⟩⟩⟩⟩⟩ (jp123 r24 m20 h)
          · rw [if_neg c29] at h
            refine rjf (a := (123, [(10, .long r24), (9, .int r23), (0, .ref 97), (1, .long x1), (3, .int r1), (4, .long y20_4), (6, .long y20_6), (8, .int y20_8)], [])) (b := (80, [(10, .long r24), (9, .int r23), (0, .ref 97), (1, .long x1), (3, .int r1), (4, .long y20_4), (6, .long y20_6), (8, .int y20_8)], [])) rfl rfl c29 ?_
            refine rsn 1 (t := (81, [(10, .long r24), (9, .int r23), (0, .ref 97), (1, .long x1), (3, .int r1), (4, .long y20_4), (6, .long y20_6), (8, .int y20_8)], [.ref 97])) rfl ?_
            refine pgI rfl rfl rfl (hSh.1.k 97 rfl _) ?_
            show RN xs L al (Ev xs L al d) 130 84 [(10, .long r24), (9, .int r23), (0, .ref 97), (1, .long x1), (3, .int r1), (4, .long y20_4), (6, .long y20_6), (8, .int y20_8)] [.int ((mI m20 97 2))] (m20, S) (some (.long r0)) (mf, S)
            refine rsn 1 (t := (85, [(10, .long r24), (9, .int r23), (0, .ref 97), (1, .long x1), (3, .int r1), (4, .long y20_4), (6, .long y20_6), (8, .int y20_8)], [.int 4, .int ((mI m20 97 2))])) rfl ?_
            have jp110 : ∀ (s30 : Int32) (m31 : Mm), (((fun j123 => b1 (f_State_with N r24 r23 s30) fun r32 => j123 r32 m31) (fun (y25 : Int64) (m26 : Mm) => b2 (rec y25 m26) fun r27 m27 => b1 (f_Will_chance N S 10 r1 y20_8 m27) fun r28 => f_Ways_outcome_L36 N S rec x1 r1 (fun (z18_4 : Int64) (z18_6 : Int64) (z18_8 : Int32) (m18 : Mm) => (if ((mI m18 97 3)) = 0 then some (z18_6, m18) else some (z18_4, m18))) n36 ((y20_4 + ((r28.toInt64 * r27)))) ((if r27 < y20_6 then r27 else y20_6)) ((y20_8 + 1)) m27))) = some (r0, mf) → RN xs L al (Ev xs L al d) 130 110 [(0, .ref 97), (1, .long x1), (3, .int r1), (4, .long y20_4), (6, .long y20_6), (8, .int y20_8), (9, .int r23), (10, .long r24)] [.int s30] (m31, S) (some (.long r0)) (mf, S) := by
              intro s30 m31 h
              try dsimp only at h
              refine rsn 4 (t := (118, [(12, .int s30), (0, .ref 97), (1, .long x1), (3, .int r1), (4, .long y20_4), (6, .long y20_6), (8, .int y20_8), (9, .int r23), (10, .long r24)], [.int s30, .int r23, .long r24])) rfl ?_
              obtain ⟨r32, g32, h⟩ := b1_some h
              refine rcS 70 [.long r24, .int r23, .int s30] rfl rfl rfl (Nat.le_of_ble_eq_true rfl) rfl (e_State_with N (by omega) g32) ?_
              show RN xs L al (Ev xs L al d) 130 121 [(12, .int s30), (0, .ref 97), (1, .long x1), (3, .int r1), (4, .long y20_4), (6, .long y20_6), (8, .int y20_8), (9, .int r23), (10, .long r24)] [.long r32] (m31, S) (some (.long r0)) (mf, S)
              refine rsn 1 (t := (123, [(10, .long r32), (12, .int s30), (0, .ref 97), (1, .long x1), (3, .int r1), (4, .long y20_4), (6, .long y20_6), (8, .int y20_8), (9, .int r23)], [])) rfl ?_
              exact rsub [(0, .ref 97), (1, .long x1), (3, .int r1), (4, .long y20_4), (6, .long y20_6), (8, .int y20_8), (10, .long r32)] ⟨rfl, ⟨rfl, ⟨rfl, ⟨rfl, ⟨rfl, ⟨rfl, ⟨rfl, trivial⟩⟩⟩⟩⟩⟩⟩ ⟨rfl, ⟨rfl, ⟨rfl, ⟨rfl, ⟨rfl, ⟨rfl, ⟨rfl, trivial⟩⟩⟩⟩⟩⟩⟩ (jp123 r32 m31 h)
            rw [jn] at h
            try dsimp only at h
            by_cases c33 : ((mI m20 97 2)) = 4
            · rw [if_pos c33] at h
              refine rjf (a := (102, [(10, .long r24), (9, .int r23), (0, .ref 97), (1, .long x1), (3, .int r1), (4, .long y20_4), (6, .long y20_6), (8, .int y20_8)], [])) (b := (88, [(10, .long r24), (9, .int r23), (0, .ref 97), (1, .long x1), (3, .int r1), (4, .long y20_4), (6, .long y20_6), (8, .int y20_8)], [])) rfl rfl (fun q => q c33) ?_
              refine rsn 1 (t := (89, [(10, .long r24), (9, .int r23), (0, .ref 97), (1, .long x1), (3, .int r1), (4, .long y20_4), (6, .long y20_6), (8, .int y20_8)], [.ref 97])) rfl ?_
              refine rgR rfl rfl rfl (hSh.1.k 97 rfl _) (hSh.1.r 103 rfl _) ?_
              refine rsn 2 (t := (96, [(10, .long r24), (9, .int r23), (0, .ref 97), (1, .long x1), (3, .int r1), (4, .long y20_4), (6, .long y20_6), (8, .int y20_8)], [.int r23, .long r24, .ref 61])) rfl ?_
              obtain ⟨r35, m35, g35, h⟩ := b2_some h
              refine rcV 110 61 [.long r24, .int r23] rfl rfl rfl (hSh.1.k 61 rfl _) (Nat.le_of_ble_eq_true rfl) rfl (e_Sight_bestGift N (by omega) hSh (by decide) g35) ?_
              show RN xs L al (Ev xs L al d) 130 99 [(10, .long r24), (9, .int r23), (0, .ref 97), (1, .long x1), (3, .int r1), (4, .long y20_4), (6, .long y20_6), (8, .int y20_8)] [.int r35] (m35, S) (some (.long r0)) (mf, S)
              refine rsn 1 (t := (110, [(10, .long r24), (9, .int r23), (0, .ref 97), (1, .long x1), (3, .int r1), (4, .long y20_4), (6, .long y20_6), (8, .int y20_8)], [.int r35])) rfl ?_
              exact rsub [(0, .ref 97), (1, .long x1), (3, .int r1), (4, .long y20_4), (6, .long y20_6), (8, .int y20_8), (9, .int r23), (10, .long r24)] ⟨rfl, ⟨rfl, ⟨rfl, ⟨rfl, ⟨rfl, ⟨rfl, ⟨rfl, ⟨rfl, trivial⟩⟩⟩⟩⟩⟩⟩⟩ ⟨rfl, ⟨rfl, ⟨rfl, ⟨rfl, ⟨rfl, ⟨rfl, ⟨rfl, ⟨rfl, trivial⟩⟩⟩⟩⟩⟩⟩⟩ (jp110 r35 m35 h)
            · rw [if_neg c33] at h
              refine rjt (a := (102, [(10, .long r24), (9, .int r23), (0, .ref 97), (1, .long x1), (3, .int r1), (4, .long y20_4), (6, .long y20_6), (8, .int y20_8)], [])) (b := (88, [(10, .long r24), (9, .int r23), (0, .ref 97), (1, .long x1), (3, .int r1), (4, .long y20_4), (6, .long y20_6), (8, .int y20_8)], [])) rfl rfl c33 ?_
              refine rsn 3 (t := (107, [(10, .long r24), (9, .int r23), (0, .ref 97), (1, .long x1), (3, .int r1), (4, .long y20_4), (6, .long y20_6), (8, .int y20_8)], [.int r23, .long r24, .ref 97])) rfl ?_
              obtain ⟨r34, g34, h⟩ := b1_some h
              refine rcV 131 97 [.long r24, .int r23] rfl rfl rfl (hSh.1.k 97 rfl _) (Nat.le_of_ble_eq_true rfl) rfl (e_Ways_gift N (by omega) hSh g34) ?_
              show RN xs L al (Ev xs L al d) 130 110 [(10, .long r24), (9, .int r23), (0, .ref 97), (1, .long x1), (3, .int r1), (4, .long y20_4), (6, .long y20_6), (8, .int y20_8)] [.int r34] (m20, S) (some (.long r0)) (mf, S)
              exact rsub [(0, .ref 97), (1, .long x1), (3, .int r1), (4, .long y20_4), (6, .long y20_6), (8, .int y20_8), (9, .int r23), (10, .long r24)] ⟨rfl, ⟨rfl, ⟨rfl, ⟨rfl, ⟨rfl, ⟨rfl, ⟨rfl, ⟨rfl, trivial⟩⟩⟩⟩⟩⟩⟩⟩ ⟨rfl, ⟨rfl, ⟨rfl, ⟨rfl, ⟨rfl, ⟨rfl, ⟨rfl, ⟨rfl, trivial⟩⟩⟩⟩⟩⟩⟩⟩ (jp110 r34 m20 h)
    exact rsub [(0, .ref 97), (1, .long x1), (3, .int r1), (4, .long 0), (6, .long 9223372036854775807), (8, .int 0)] ⟨rfl, ⟨rfl, ⟨rfl, ⟨rfl, ⟨rfl, ⟨rfl, trivial⟩⟩⟩⟩⟩⟩ ⟨rfl, ⟨rfl, ⟨rfl, ⟨rfl, ⟨rfl, ⟨rfl, trivial⟩⟩⟩⟩⟩⟩ (lp36 N 0 9223372036854775807 0 m h)
  · rw [if_neg c2] at h
    refine rjf (a := (25, [(3, .int r1), (0, .ref 97), (1, .long x1)], [])) (b := (16, [(3, .int r1), (0, .ref 97), (1, .long x1)], [])) rfl rfl c2 ?_
    refine rsn 1 (t := (17, [(3, .int r1), (0, .ref 97), (1, .long x1)], [.ref 97])) rfl ?_
    obtain ⟨t36, g36, h⟩ := b1_some h
    refine rgR rfl rfl rfl (hSh.1.k 97 rfl _) g36 ?_
    refine rsn 1 (t := (21, [(3, .int r1), (0, .ref 97), (1, .long x1)], [.long x1, .ref t36])) rfl ?_
    obtain ⟨r37, m37, g37, h⟩ := b2_some h
    refine rcV 80 t36 [.long x1] rfl rfl rfl (hSh.kE (hSh.wE g36) _) (Nat.le_of_ble_eq_true rfl) rfl (e_Ends_value N (by omega) hSh (hSh.wE g36) g37) ?_
    show RN xs L al (Ev xs L al d) 130 24 [(3, .int r1), (0, .ref 97), (1, .long x1)] [.long r37] (m37, S) (some (.long r0)) (mf, S)
    obtain ⟨h, h2⟩ := Prod.mk.inj (Option.some.inj h)
    subst h
    subst h2
    exact rret rfl ⟨rfl, rfl, _, rfl, rfl, rfl⟩
def fR_Ways_outcome (N : Nat) (S : St) : Nat → Int64 → Mm → Option (Int64 × Mm)
  | 0, _, _ => none
  | q + 1, x1, m => fM_Ways_outcome N S (fR_Ways_outcome N S q) x1 m
theorem eR_Ways_outcome {xs : Nat → Int32} {L : Nat} {al : Bool} (N : Nat) {S : St} (hSh : ShC S) : ∀ (q : Nat) {d : Nat} (_ : 1 * q + 79 ≤ d) {x1 : Int64} {m : Mm} {r0 : Int64} {mf : Mm} (_ : fR_Ways_outcome N S q x1 m = some (r0, mf)), Ev xs L al d 130 [.ref 97, .long x1] (m, S) (some (.long r0)) (mf, S) := by
  intro q
  induction q with
  | zero => intro d hd x1 m r0 mf h; exact absurd h (by simp [fR_Ways_outcome])
  | succ q ih =>
    intro d hd x1 m r0 mf h
    rw [fR_Ways_outcome] at h
    exact eM_Ways_outcome N (D0 := 1 * q + 79) (by omega) (fun h => ih (Nat.le_refl _) h) (by omega) hSh h
def f_Ways_outcome (N : Nat) (S : St) (x1 : Int64) (m : Mm) : Option (Int64 × Mm) := fR_Ways_outcome N S 8 x1 m
theorem e_Ways_outcome {xs : Nat → Int32} {L : Nat} {al : Bool} (N : Nat) {d : Nat} (hd : 88 ≤ d) {S : St} (hSh : ShC S) {x1 : Int64} {m : Mm} {r0 : Int64} {mf : Mm} (h : f_Ways_outcome N S x1 m = some (r0, mf)) : Ev xs L al d 130 [.ref 97, .long x1] (m, S) (some (.long r0)) (mf, S) := eR_Ways_outcome N hSh 8 (by omega) h
