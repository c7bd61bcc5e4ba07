/-! The reference's methods as functions (printed by wip/whole/gen_fun.py). -/
def f_Mo_dayLine_L39 (N : Nat) (k39 : Mm → Option (Int32 × Mm)) : Nat → Mm → Option (Int32 × Mm)
  | 0, _ => none
  | n39 + 1, m => b1 (f_Mo_isSign N 44 m) fun r6 => (if r6 = 0 then k39 m else ck (ix ((mI m 0 10)) 6) ((if 3 ≤ ((mX m 5 (((mI m 0 10)).toNatClampNeg))) then k39 m else b3 (f_Mo_next N m) fun m10 => b2 (f_Mo_altHere N m10) fun r11 m11 => (if r11 = 0 then some (0, m11) else f_Mo_dayLine_L39 N k39 n39 m11))))
def f_Mo_dayLine (N : Nat) (m : Mm) : Option (Int32 × Mm) := (if ((mI m 0 10)) = 6 then some (0, m) else b3 (f_Mo_next N m) fun m2 => ck (ix ((mI m2 0 10)) 6) (b2 (f_Mo_altHere N (vX (vI m2 0 30 0) 5 (((mI m2 0 10)).toNatClampNeg) 0)) fun r4 m4 => (if r4 = 0 then some (0, m4) else f_Mo_dayLine_L39 N (fun (m13 : Mm) => (if ((mI m13 0 30)) < 12 then some (0, m13) else b2 (f_Mo_closes N m13) fun r15 m15 => (if r15 = 0 then some (0, m15) else some (1, (vI m15 0 10 ((((mI m15 0 10)) + 1))))))) N m4)))
set_option maxRecDepth 20000 in
set_option maxHeartbeats 4000000 in
theorem e_Mo_dayLine {xs : Nat → Int32} {L : Nat} {al : Bool} (N : Nat) {d : Nat} (hd : 9 ≤ d) {S : St} (hSh : ShR S) {m : Mm} {r0 : Int32} {mf : Mm} (h : f_Mo_dayLine N m = some (r0, mf)) : Ev xs L al d 167 [.ref 0] (m, S) (some (.int r0)) (mf, S) := by
  obtain ⟨d, rfl⟩ : ∃ e, d = e + 1 := ⟨d - 1, by omega⟩
  refine ev_of (by decide) (Nat.le_of_ble_eq_true rfl) ?_
  rw [f_Mo_dayLine] at h
  show RN xs L al (Ev xs L al d) 167 0 [(0, .ref 0)] [] (m, S) (some (.int r0)) (mf, S)
  refine rsn 1 (t := (1, [(0, .ref 0)], [.ref 0])) rfl ?_
  refine pgI rfl rfl rfl (hSh.k 0 rfl _) ?_
  show RN xs L al (Ev xs L al d) 167 4 [(0, .ref 0)] [.int ((mI m 0 10))] (m, S) (some (.int r0)) (mf, S)
  refine rsn 1 (t := (6, [(0, .ref 0)], [.int 6, .int ((mI m 0 10))])) rfl ?_
  by_cases c1 : ((mI m 0 10)) = 6
  · rw [if_pos c1] at h
    refine rjf (a := (11, [(0, .ref 0)], [])) (b := (9, [(0, .ref 0)], [])) rfl rfl (fun q => q c1) ?_
    refine rsn 1 (t := (10, [(0, .ref 0)], [.int 0])) rfl ?_
    cases h
    exact rret rfl ⟨rfl, rfl, _, _, rfl, rfl, rfl, rfl⟩
  · rw [if_neg c1] at h
    refine rjt (a := (11, [(0, .ref 0)], [])) (b := (9, [(0, .ref 0)], [])) rfl rfl c1 ?_
    refine rsn 1 (t := (12, [(0, .ref 0)], [.ref 0])) rfl ?_
    obtain ⟨m2, g2, h⟩ := b3_some h
    refine rcV 148 0 [] rfl rfl rfl (hSh.k 0 rfl _) (Nat.le_of_ble_eq_true rfl) rfl (e_Mo_next N (by omega) hSh g2) ?_
    show RN xs L al (Ev xs L al d) 167 15 [(0, .ref 0)] [] (m2, S) (some (.int r0)) (mf, S)
    refine rsn 2 (t := (17, [(0, .ref 0)], [.int 0, .ref 0])) rfl ?_
    refine ppI rfl rfl rfl rfl (hSh.k 0 rfl _) ?_
    refine rsn 1 (t := (21, [(0, .ref 0)], [.ref 0])) rfl ?_
    refine rgR rfl rfl rfl (hSh.k 0 rfl _) (hSh.r 4 rfl _) ?_
    refine rsn 1 (t := (25, [(0, .ref 0)], [.ref 0, .ref 5])) rfl ?_
    refine pgI rfl rfl rfl (hSh.k 0 rfl _) ?_
    show RN xs L al (Ev xs L al d) 167 28 [(0, .ref 0)] [.int ((mI m2 0 10)), .ref 5] ((vI m2 0 30 0), S) (some (.int r0)) (mf, S)
    refine rsn 1 (t := (29, [(0, .ref 0)], [.int 0, .int ((mI m2 0 10)), .ref 5])) rfl ?_
    obtain ⟨c3, h⟩ := ck_some h
    refine psI rfl (hSh.k 5 rfl _) (hSh.l 4 rfl _) c3 ?_
    refine rsn 1 (t := (31, [(0, .ref 0)], [.ref 0])) rfl ?_
    obtain ⟨r4, m4, g4, h⟩ := b2_some h
    refine rcV 168 0 [] rfl rfl rfl (hSh.k 0 rfl _) (Nat.le_of_ble_eq_true rfl) rfl (e_Mo_altHere N (by omega) hSh g4) ?_
    show RN xs L al (Ev xs L al d) 167 34 [(0, .ref 0)] [.int r4] (m4, S) (some (.int r0)) (mf, S)
    by_cases c5 : r4 = 0
    · rw [if_pos c5] at h
      refine rjf (a := (39, [(0, .ref 0)], [])) (b := (37, [(0, .ref 0)], [])) rfl rfl (fun q => q c5) ?_
      refine rsn 1 (t := (38, [(0, .ref 0)], [.int 0])) rfl ?_
      cases h
      exact rret rfl ⟨rfl, rfl, _, _, rfl, rfl, rfl, rfl⟩
    · rw [if_neg c5] at h
      refine rjt (a := (39, [(0, .ref 0)], [])) (b := (37, [(0, .ref 0)], [])) rfl rfl c5 ?_
      have ex39 : ∀ (m13 : Mm), ((if ((mI m13 0 30)) < 12 then some (0, m13) else b2 (f_Mo_closes N m13) fun r15 m15 => (if r15 = 0 then some (0, m15) else some (1, (vI m15 0 10 ((((mI m15 0 10)) + 1))))))) = some (r0, mf) → RN xs L al (Ev xs L al d) 167 74 [(0, .ref 0)] [] (m13, S) (some (.int r0)) (mf, S) := by
        intro m13 h
        try dsimp only at h
        refine rsn 1 (t := (75, [(0, .ref 0)], [.ref 0])) rfl ?_
        refine pgI rfl rfl rfl (hSh.k 0 rfl _) ?_
        show RN xs L al (Ev xs L al d) 167 78 [(0, .ref 0)] [.int ((mI m13 0 30))] (m13, S) (some (.int r0)) (mf, S)
        refine rsn 1 (t := (80, [(0, .ref 0)], [.int 12, .int ((mI m13 0 30))])) rfl ?_
        by_cases c14 : ((mI m13 0 30)) < 12
        · rw [if_pos c14] at h
          refine rjt (a := (90, [(0, .ref 0)], [])) (b := (83, [(0, .ref 0)], [])) rfl rfl c14 ?_
          refine rsn 1 (t := (91, [(0, .ref 0)], [.int 0])) rfl ?_
          cases h
          exact rret rfl ⟨rfl, rfl, _, _, rfl, rfl, rfl, rfl⟩
        · rw [if_neg c14] at h
          refine rjf (a := (90, [(0, .ref 0)], [])) (b := (83, [(0, .ref 0)], [])) rfl rfl c14 ?_
          refine rsn 1 (t := (84, [(0, .ref 0)], [.ref 0])) rfl ?_
          obtain ⟨r15, m15, g15, h⟩ := b2_some h
          refine rcV 165 0 [] rfl rfl rfl (hSh.k 0 rfl _) (Nat.le_of_ble_eq_true rfl) rfl (e_Mo_closes N (by omega) hSh g15) ?_
          show RN xs L al (Ev xs L al d) 167 87 [(0, .ref 0)] [.int r15] (m15, S) (some (.int r0)) (mf, S)
          by_cases c16 : r15 = 0
          · rw [if_pos c16] at h
            refine rjf (a := (92, [(0, .ref 0)], [])) (b := (90, [(0, .ref 0)], [])) rfl rfl (fun q => q c16) ?_
            refine rsn 1 (t := (91, [(0, .ref 0)], [.int 0])) rfl ?_
            cases h
            exact rret rfl ⟨rfl, rfl, _, _, rfl, rfl, rfl, rfl⟩
          · rw [if_neg c16] at h
            refine rjt (a := (92, [(0, .ref 0)], [])) (b := (90, [(0, .ref 0)], [])) rfl rfl c16 ?_
            refine rsn 2 (t := (94, [(0, .ref 0)], [.ref 0, .ref 0])) rfl ?_
            refine pgI rfl rfl rfl (hSh.k 0 rfl _) ?_
            show RN xs L al (Ev xs L al d) 167 97 [(0, .ref 0)] [.int ((mI m15 0 10)), .ref 0] (m15, S) (some (.int r0)) (mf, S)
            refine rsn 2 (t := (99, [(0, .ref 0)], [.int ((((mI m15 0 10)) + 1)), .ref 0])) rfl ?_
            refine ppI rfl rfl rfl rfl (hSh.k 0 rfl _) ?_
            refine rsn 1 (t := (103, [(0, .ref 0)], [.int 1])) rfl ?_
            cases h
            exact rret rfl ⟨rfl, rfl, _, _, rfl, rfl, rfl, rfl⟩
      have lp39 : ∀ (n : Nat) (m17 : Mm), (f_Mo_dayLine_L39 N (fun (m13 : Mm) => (if ((mI m13 0 30)) < 12 then some (0, m13) else b2 (f_Mo_closes N m13) fun r15 m15 => (if r15 = 0 then some (0, m15) else some (1, (vI m15 0 10 ((((mI m15 0 10)) + 1))))))) n m17) = some (r0, mf) → RN xs L al (Ev xs L al d) 167 39 [(0, .ref 0)] [] (m17, S) (some (.int r0)) (mf, S) := by
        intro n
        induction n with
        | zero => intro m17 h; exact absurd h (by simp [f_Mo_dayLine_L39])
        | succ n39 ih39 =>
          intro m17 h
          try dsimp only at h
          rw [f_Mo_dayLine_L39] at h
          try dsimp only at h
          refine rsn 2 (t := (42, [(0, .ref 0)], [.int 44, .ref 0])) rfl ?_
          obtain ⟨r18, g18, h⟩ := b1_some h
          refine rcV 166 0 [.int 44] rfl rfl rfl (hSh.k 0 rfl _) (Nat.le_of_ble_eq_true rfl) rfl (e_Mo_isSign N (by omega) hSh g18) ?_
          show RN xs L al (Ev xs L al d) 167 45 [(0, .ref 0)] [.int r18] (m17, S) (some (.int r0)) (mf, S)
          by_cases c19 : r18 = 0
          · rw [if_pos c19] at h
            refine rjt (a := (74, [(0, .ref 0)], [])) (b := (48, [(0, .ref 0)], [])) rfl rfl c19 ?_
            exact rsub [(0, .ref 0)] ⟨rfl, trivial⟩ ⟨rfl, trivial⟩ (ex39 m17 h)
          · rw [if_neg c19] at h
            refine rjf (a := (74, [(0, .ref 0)], [])) (b := (48, [(0, .ref 0)], [])) rfl rfl c19 ?_
            refine rsn 1 (t := (49, [(0, .ref 0)], [.ref 0])) rfl ?_
            refine rgR rfl rfl rfl (hSh.k 0 rfl _) (hSh.r 4 rfl _) ?_
            refine rsn 1 (t := (53, [(0, .ref 0)], [.ref 0, .ref 5])) rfl ?_
            refine pgI rfl rfl rfl (hSh.k 0 rfl _) ?_
            show RN xs L al (Ev xs L al d) 167 56 [(0, .ref 0)] [.int ((mI m17 0 10)), .ref 5] (m17, S) (some (.int r0)) (mf, S)
            obtain ⟨c20, h⟩ := ck_some h
            refine pxI rfl (hSh.k 5 rfl _) (hSh.l 4 rfl _) c20 ?_
            show RN xs L al (Ev xs L al d) 167 57 [(0, .ref 0)] [.int ((mX m17 5 (((mI m17 0 10)).toNatClampNeg)))] (m17, S) (some (.int r0)) (mf, S)
            refine rsn 1 (t := (58, [(0, .ref 0)], [.int 3, .int ((mX m17 5 (((mI m17 0 10)).toNatClampNeg)))])) rfl ?_
            by_cases c21 : 3 ≤ ((mX m17 5 (((mI m17 0 10)).toNatClampNeg)))
            · rw [if_pos c21] at h
              refine rjt (a := (74, [(0, .ref 0)], [])) (b := (61, [(0, .ref 0)], [])) rfl rfl c21 ?_
              exact rsub [(0, .ref 0)] ⟨rfl, trivial⟩ ⟨rfl, trivial⟩ (ex39 m17 h)
            · rw [if_neg c21] at h
              refine rjf (a := (74, [(0, .ref 0)], [])) (b := (61, [(0, .ref 0)], [])) rfl rfl c21 ?_
              refine rsn 1 (t := (62, [(0, .ref 0)], [.ref 0])) rfl ?_
              obtain ⟨m22, g22, h⟩ := b3_some h
              refine rcV 148 0 [] rfl rfl rfl (hSh.k 0 rfl _) (Nat.le_of_ble_eq_true rfl) rfl (e_Mo_next N (by omega) hSh g22) ?_
              show RN xs L al (Ev xs L al d) 167 65 [(0, .ref 0)] [] (m22, S) (some (.int r0)) (mf, S)
              refine rsn 1 (t := (66, [(0, .ref 0)], [.ref 0])) rfl ?_
              obtain ⟨r23, m23, g23, h⟩ := b2_some h
              refine rcV 168 0 [] rfl rfl rfl (hSh.k 0 rfl _) (Nat.le_of_ble_eq_true rfl) rfl (e_Mo_altHere N (by omega) hSh g23) ?_
              show RN xs L al (Ev xs L al d) 167 69 [(0, .ref 0)] [.int r23] (m23, S) (some (.int r0)) (mf, S)
              by_cases c24 : r23 = 0
              · rw [if_pos c24] at h
                refine rjf (a := (39, [(0, .ref 0)], [])) (b := (72, [(0, .ref 0)], [])) rfl rfl (fun q => q c24) ?_
                refine rsn 1 (t := (73, [(0, .ref 0)], [.int 0])) rfl ?_
                cases h
                exact rret rfl ⟨rfl, rfl, _, _, rfl, rfl, rfl, rfl⟩
              · rw [if_neg c24] at h
                refine rjt (a := (39, [(0, .ref 0)], [])) (b := (72, [(0, .ref 0)], [])) rfl rfl c24 ?_
                exact rsub [(0, .ref 0)] ⟨rfl, trivial⟩ ⟨rfl, trivial⟩ (ih39 m23 h)
      exact rsub [(0, .ref 0)] ⟨rfl, trivial⟩ ⟨rfl, trivial⟩ (lp39 N m4 h)
def f_Mo_line (N : Nat) (m : Mm) : Option (Int32 × Mm) := b1 (f_Mo_isWord N 0 m) fun r1 => (if r1 = 0 then b1 (f_Mo_isWord N 1 m) fun r6 => (if r6 = 0 then b1 (f_Mo_isWord N 2 m) fun r8 => (if r8 = 0 then b1 (f_Mo_isWord N 6 m) fun r10 => (jn (fun (_ : Unit) => (jn (fun (s11 : Int32) => (if s11 = ((-1)) then b3 (f_Mo_next N m) fun m13 => (jn (fun (s14 : Int32) => b1 (f_Mo_isNumber N 0 s14 m13) fun r15 => (if r15 = 0 then some (0, m13) else (if r10 = 0 then b3 (f_Mo_next N (vI m13 0 14 (((mJ m13 0 5)).toInt32))) fun m18 => b2 (f_Mo_closes N m18) fun r19 m19 => ck (r19 = 0 ∨ r19 = 1) (some (r19, m19)) else b3 (f_Mo_next N (vI m13 0 13 (((mJ m13 0 5)).toInt32))) fun m21 => b2 (f_Mo_closes N m21) fun r22 m22 => ck (r22 = 0 ∨ r22 = 1) (some (r22, m22))))) (fun j99 => if r10 = 0 then j99 1 else j99 2)) else some (0, m))) (fun j78 => if r10 = 0 then j78 ((mI m 0 14)) else j78 ((mI m 0 13))))) (fun j63 => if r10 = 0 then b1 (f_Mo_isWord N 7 m) fun r27 => (if r27 = 0 then some (0, m) else j63 ()) else j63 ())) else b2 (f_Mo_dayLine N m) fun r29 m29 => ck (r29 = 0 ∨ r29 = 1) (some (r29, m29))) else b1 (f_Mo_isWord N 1 m) fun r31 => b2 (f_Mo_heirLine N r31 m) fun r32 m32 => ck (r32 = 0 ∨ r32 = 1) (some (r32, m32))) else b1 (f_Mo_isWord N 1 m) fun r3 => b2 (f_Mo_heirLine N r3 m) fun r4 m4 => ck (r4 = 0 ∨ r4 = 1) (some (r4, m4)))
set_option maxRecDepth 20000 in
set_option maxHeartbeats 4000000 in
theorem e_Mo_line {xs : Nat → Int32} {L : Nat} {al : Bool} (N : Nat) {d : Nat} (hd : 10 ≤ d) {S : St} (hSh : ShR S) {m : Mm} {r0 : Int32} {mf : Mm} (h : f_Mo_line N m = some (r0, mf)) : Ev xs L al d 151 [.ref 0] (m, S) (some (.int r0)) (mf, S) := by
  obtain ⟨d, rfl⟩ : ∃ e, d = e + 1 := ⟨d - 1, by omega⟩
  refine ev_of (by decide) (Nat.le_of_ble_eq_true rfl) ?_
  rw [f_Mo_line] at h
  show RN xs L al (Ev xs L al d) 151 0 [(0, .ref 0)] [] (m, S) (some (.int r0)) (mf, S)
  refine rsn 1 (t := (1, [(0, .ref 0)], [.ref 0])) rfl ?_
  refine rm (st1 := [.retAddr 0, .ref 0]) rfl ⟨rfl, rfl, 0, rfl, rfl⟩ ?_
  obtain ⟨r1, g1, h⟩ := b1_some h
  refine rcV 152 0 [.retAddr 0] rfl rfl rfl (hSh.k 0 rfl _) (Nat.le_of_ble_eq_true rfl) rfl (e_Mo_isWord N (by omega) hSh (by decide) g1) ?_
  show RN xs L al (Ev xs L al d) 151 6 [(0, .ref 0)] [.int r1] (m, S) (some (.int r0)) (mf, S)
  by_cases c2 : r1 = 0
  · rw [if_pos c2] at h
    refine rjf (a := (18, [(0, .ref 0)], [])) (b := (9, [(0, .ref 0)], [])) rfl rfl (fun q => q c2) ?_
    refine rsn 1 (t := (10, [(0, .ref 0)], [.ref 0])) rfl ?_
    refine rm (st1 := [.retAddr 1, .ref 0]) rfl ⟨rfl, rfl, 1, rfl, rfl⟩ ?_
    obtain ⟨r6, g6, h⟩ := b1_some h
    refine rcV 152 0 [.retAddr 1] rfl rfl rfl (hSh.k 0 rfl _) (Nat.le_of_ble_eq_true rfl) rfl (e_Mo_isWord N (by omega) hSh (by decide) g6) ?_
    show RN xs L al (Ev xs L al d) 151 15 [(0, .ref 0)] [.int r6] (m, S) (some (.int r0)) (mf, S)
    by_cases c7 : r6 = 0
    · rw [if_pos c7] at h
      refine rjt (a := (29, [(0, .ref 0)], [])) (b := (18, [(0, .ref 0)], [])) rfl rfl c7 ?_
      refine rsn 1 (t := (30, [(0, .ref 0)], [.ref 0])) rfl ?_
      refine rm (st1 := [.retAddr 2, .ref 0]) rfl ⟨rfl, rfl, 2, rfl, rfl⟩ ?_
      obtain ⟨r8, g8, h⟩ := b1_some h
      refine rcV 152 0 [.retAddr 2] rfl rfl rfl (hSh.k 0 rfl _) (Nat.le_of_ble_eq_true rfl) rfl (e_Mo_isWord N (by omega) hSh (by decide) g8) ?_
      show RN xs L al (Ev xs L al d) 151 35 [(0, .ref 0)] [.int r8] (m, S) (some (.int r0)) (mf, S)
      by_cases c9 : r8 = 0
      · rw [if_pos c9] at h
        refine rjt (a := (43, [(0, .ref 0)], [])) (b := (38, [(0, .ref 0)], [])) rfl rfl c9 ?_
        refine rsn 1 (t := (44, [(0, .ref 0)], [.ref 0])) rfl ?_
        refine rm (st1 := [.retAddr 6, .ref 0]) rfl ⟨rfl, rfl, 6, rfl, rfl⟩ ?_
        obtain ⟨r10, g10, h⟩ := b1_some h
        refine rcV 152 0 [.retAddr 6] rfl rfl rfl (hSh.k 0 rfl _) (Nat.le_of_ble_eq_true rfl) rfl (e_Mo_isWord N (by omega) hSh (by decide) g10) ?_
        show RN xs L al (Ev xs L al d) 151 49 [(0, .ref 0)] [.int r10] (m, S) (some (.int r0)) (mf, S)
        refine rsn 2 (t := (51, [(1, .int r10), (0, .ref 0)], [.int r10])) rfl ?_
        have jp63 : ∀ (_ : Unit), ((jn (fun (s11 : Int32) => (if s11 = ((-1)) then b3 (f_Mo_next N m) fun m13 => (jn (fun (s14 : Int32) => b1 (f_Mo_isNumber N 0 s14 m13) fun r15 => (if r15 = 0 then some (0, m13) else (if r10 = 0 then b3 (f_Mo_next N (vI m13 0 14 (((mJ m13 0 5)).toInt32))) fun m18 => b2 (f_Mo_closes N m18) fun r19 m19 => ck (r19 = 0 ∨ r19 = 1) (some (r19, m19)) else b3 (f_Mo_next N (vI m13 0 13 (((mJ m13 0 5)).toInt32))) fun m21 => b2 (f_Mo_closes N m21) fun r22 m22 => ck (r22 = 0 ∨ r22 = 1) (some (r22, m22))))) (fun j99 => if r10 = 0 then j99 1 else j99 2)) else some (0, m))) (fun j78 => if r10 = 0 then j78 ((mI m 0 14)) else j78 ((mI m 0 13))))) = some (r0, mf) → RN xs L al (Ev xs L al d) 151 63 [(0, .ref 0), (1, .int r10)] [] (m, S) (some (.int r0)) (mf, S) := by
          intro _ h
          try dsimp only at h
          refine rsn 1 (t := (64, [(0, .ref 0), (1, .int r10)], [.int r10])) rfl ?_
          have jp78 : ∀ (s11 : Int32), ((if s11 = ((-1)) then b3 (f_Mo_next N m) fun m13 => (jn (fun (s14 : Int32) => b1 (f_Mo_isNumber N 0 s14 m13) fun r15 => (if r15 = 0 then some (0, m13) else (if r10 = 0 then b3 (f_Mo_next N (vI m13 0 14 (((mJ m13 0 5)).toInt32))) fun m18 => b2 (f_Mo_closes N m18) fun r19 m19 => ck (r19 = 0 ∨ r19 = 1) (some (r19, m19)) else b3 (f_Mo_next N (vI m13 0 13 (((mJ m13 0 5)).toInt32))) fun m21 => b2 (f_Mo_closes N m21) fun r22 m22 => ck (r22 = 0 ∨ r22 = 1) (some (r22, m22))))) (fun j99 => if r10 = 0 then j99 1 else j99 2)) else some (0, m))) = some (r0, mf) → RN xs L al (Ev xs L al d) 151 78 [(0, .ref 0), (1, .int r10)] [.int s11] (m, S) (some (.int r0)) (mf, S) := by
            intro s11 h
            try dsimp only at h
            refine rsn 1 (t := (79, [(0, .ref 0), (1, .int r10)], [.int ((-1)), .int s11])) rfl ?_
            by_cases c12 : s11 = ((-1))
            · rw [if_pos c12] at h
              refine rjt (a := (84, [(0, .ref 0), (1, .int r10)], [])) (b := (82, [(0, .ref 0), (1, .int r10)], [])) rfl rfl c12 ?_
              refine rsn 1 (t := (85, [(0, .ref 0), (1, .int r10)], [.ref 0])) rfl ?_
              obtain ⟨m13, g13, h⟩ := b3_some h
              refine rcV 148 0 [] rfl rfl rfl (hSh.k 0 rfl _) (Nat.le_of_ble_eq_true rfl) rfl (e_Mo_next N (by omega) hSh g13) ?_
              show RN xs L al (Ev xs L al d) 151 88 [(0, .ref 0), (1, .int r10)] [] (m13, S) (some (.int r0)) (mf, S)
              refine rsn 3 (t := (91, [(0, .ref 0), (1, .int r10)], [.int r10, .int 0, .ref 0])) rfl ?_
              have jp99 : ∀ (s14 : Int32), (b1 (f_Mo_isNumber N 0 s14 m13) fun r15 => (if r15 = 0 then some (0, m13) else (if r10 = 0 then b3 (f_Mo_next N (vI m13 0 14 (((mJ m13 0 5)).toInt32))) fun m18 => b2 (f_Mo_closes N m18) fun r19 m19 => ck (r19 = 0 ∨ r19 = 1) (some (r19, m19)) else b3 (f_Mo_next N (vI m13 0 13 (((mJ m13 0 5)).toInt32))) fun m21 => b2 (f_Mo_closes N m21) fun r22 m22 => ck (r22 = 0 ∨ r22 = 1) (some (r22, m22))))) = some (r0, mf) → RN xs L al (Ev xs L al d) 151 99 [(0, .ref 0), (1, .int r10)] [.int s14, .int 0, .ref 0] (m13, S) (some (.int r0)) (mf, S) := by
                intro s14 h
                try dsimp only at h
                obtain ⟨r15, g15, h⟩ := b1_some h
                refine rcV 164 0 [.int 0, .int s14] rfl rfl rfl (hSh.k 0 rfl _) (Nat.le_of_ble_eq_true rfl) rfl (e_Mo_isNumber N (by omega) hSh g15) ?_
                show RN xs L al (Ev xs L al d) 151 102 [(0, .ref 0), (1, .int r10)] [.int r15] (m13, S) (some (.int r0)) (mf, S)
                by_cases c16 : r15 = 0
                · rw [if_pos c16] at h
                  refine rjf (a := (107, [(0, .ref 0), (1, .int r10)], [])) (b := (105, [(0, .ref 0), (1, .int r10)], [])) rfl rfl (fun q => q c16) ?_
                  refine rsn 1 (t := (106, [(0, .ref 0), (1, .int r10)], [.int 0])) rfl ?_
                  cases h
                  exact rret rfl ⟨rfl, rfl, _, _, rfl, rfl, rfl, rfl⟩
                · rw [if_neg c16] at h
                  refine rjt (a := (107, [(0, .ref 0), (1, .int r10)], [])) (b := (105, [(0, .ref 0), (1, .int r10)], [])) rfl rfl c16 ?_
                  refine rsn 1 (t := (108, [(0, .ref 0), (1, .int r10)], [.int r10])) rfl ?_
                  by_cases c17 : r10 = 0
                  · rw [if_pos c17] at h
                    refine rjt (a := (123, [(0, .ref 0), (1, .int r10)], [])) (b := (111, [(0, .ref 0), (1, .int r10)], [])) rfl rfl c17 ?_
                    refine rsn 2 (t := (125, [(0, .ref 0), (1, .int r10)], [.ref 0, .ref 0])) rfl ?_
                    refine pgJ rfl rfl rfl (hSh.k 0 rfl _) ?_
                    show RN xs L al (Ev xs L al d) 151 128 [(0, .ref 0), (1, .int r10)] [.long ((mJ m13 0 5)), .ref 0] (m13, S) (some (.int r0)) (mf, S)
                    refine rsn 1 (t := (129, [(0, .ref 0), (1, .int r10)], [.int (((mJ m13 0 5)).toInt32), .ref 0])) rfl ?_
                    refine ppI rfl rfl rfl rfl (hSh.k 0 rfl _) ?_
                    refine rsn 1 (t := (133, [(0, .ref 0), (1, .int r10)], [.ref 0])) rfl ?_
                    obtain ⟨m18, g18, h⟩ := b3_some h
                    refine rcV 148 0 [] rfl rfl rfl (hSh.k 0 rfl _) (Nat.le_of_ble_eq_true rfl) rfl (e_Mo_next N (by omega) hSh g18) ?_
                    show RN xs L al (Ev xs L al d) 151 136 [(0, .ref 0), (1, .int r10)] [] (m18, S) (some (.int r0)) (mf, S)
                    refine rsn 1 (t := (137, [(0, .ref 0), (1, .int r10)], [.ref 0])) rfl ?_
                    obtain ⟨r19, m19, g19, h⟩ := b2_some h
                    refine rcV 165 0 [] rfl rfl rfl (hSh.k 0 rfl _) (Nat.le_of_ble_eq_true rfl) rfl (e_Mo_closes N (by omega) hSh g19) ?_
                    show RN xs L al (Ev xs L al d) 151 140 [(0, .ref 0), (1, .int r10)] [.int r19] (m19, S) (some (.int r0)) (mf, S)
                    obtain ⟨c20, h⟩ := ck_some h
                    cases h
                    exact rret rfl ⟨rfl, rfl, _, _, rfl, rfl, rfl, nz_of c20⟩
                  · rw [if_neg c17] at h
                    refine rjf (a := (123, [(0, .ref 0), (1, .int r10)], [])) (b := (111, [(0, .ref 0), (1, .int r10)], [])) rfl rfl c17 ?_
                    refine rsn 2 (t := (113, [(0, .ref 0), (1, .int r10)], [.ref 0, .ref 0])) rfl ?_
                    refine pgJ rfl rfl rfl (hSh.k 0 rfl _) ?_
                    show RN xs L al (Ev xs L al d) 151 116 [(0, .ref 0), (1, .int r10)] [.long ((mJ m13 0 5)), .ref 0] (m13, S) (some (.int r0)) (mf, S)
                    refine rsn 1 (t := (117, [(0, .ref 0), (1, .int r10)], [.int (((mJ m13 0 5)).toInt32), .ref 0])) rfl ?_
                    refine ppI rfl rfl rfl rfl (hSh.k 0 rfl _) ?_
                    refine rsn 2 (t := (133, [(0, .ref 0), (1, .int r10)], [.ref 0])) rfl ?_
                    obtain ⟨m21, g21, h⟩ := b3_some h
                    refine rcV 148 0 [] rfl rfl rfl (hSh.k 0 rfl _) (Nat.le_of_ble_eq_true rfl) rfl (e_Mo_next N (by omega) hSh g21) ?_
                    show RN xs L al (Ev xs L al d) 151 136 [(0, .ref 0), (1, .int r10)] [] (m21, S) (some (.int r0)) (mf, S)
                    refine rsn 1 (t := (137, [(0, .ref 0), (1, .int r10)], [.ref 0])) rfl ?_
                    obtain ⟨r22, m22, g22, h⟩ := b2_some h
                    refine rcV 165 0 [] rfl rfl rfl (hSh.k 0 rfl _) (Nat.le_of_ble_eq_true rfl) rfl (e_Mo_closes N (by omega) hSh g22) ?_
                    show RN xs L al (Ev xs L al d) 151 140 [(0, .ref 0), (1, .int r10)] [.int r22] (m22, S) (some (.int r0)) (mf, S)
                    obtain ⟨c23, h⟩ := ck_some h
                    cases h
                    exact rret rfl ⟨rfl, rfl, _, _, rfl, rfl, rfl, nz_of c23⟩
              rw [jn] at h
              try dsimp only at h
              by_cases c24 : r10 = 0
              · rw [if_pos c24] at h
                refine rjt (a := (98, [(0, .ref 0), (1, .int r10)], [.int 0, .ref 0])) (b := (94, [(0, .ref 0), (1, .int r10)], [.int 0, .ref 0])) rfl rfl c24 ?_
                refine rsn 1 (t := (99, [(0, .ref 0), (1, .int r10)], [.int 1, .int 0, .ref 0])) rfl ?_
                exact rsub [(0, .ref 0), (1, .int r10)] ⟨rfl, ⟨rfl, trivial⟩⟩ ⟨rfl, ⟨rfl, trivial⟩⟩ (jp99 1 h)
              · rw [if_neg c24] at h
                refine rjf (a := (98, [(0, .ref 0), (1, .int r10)], [.int 0, .ref 0])) (b := (94, [(0, .ref 0), (1, .int r10)], [.int 0, .ref 0])) rfl rfl c24 ?_
                refine rsn 2 (t := (99, [(0, .ref 0), (1, .int r10)], [.int 2, .int 0, .ref 0])) rfl ?_
                exact rsub [(0, .ref 0), (1, .int r10)] ⟨rfl, ⟨rfl, trivial⟩⟩ ⟨rfl, ⟨rfl, trivial⟩⟩ (jp99 2 h)
            · rw [if_neg c12] at h
              refine rjf (a := (84, [(0, .ref 0), (1, .int r10)], [])) (b := (82, [(0, .ref 0), (1, .int r10)], [])) rfl rfl c12 ?_
              refine rsn 1 (t := (83, [(0, .ref 0), (1, .int r10)], [.int 0])) rfl ?_
              cases h
              exact rret rfl ⟨rfl, rfl, _, _, rfl, rfl, rfl, rfl⟩
          rw [jn] at h
          try dsimp only at h
          by_cases c25 : r10 = 0
          · rw [if_pos c25] at h
            refine rjt (a := (74, [(0, .ref 0), (1, .int r10)], [])) (b := (67, [(0, .ref 0), (1, .int r10)], [])) rfl rfl c25 ?_
            refine rsn 1 (t := (75, [(0, .ref 0), (1, .int r10)], [.ref 0])) rfl ?_
            refine pgI rfl rfl rfl (hSh.k 0 rfl _) ?_
            show RN xs L al (Ev xs L al d) 151 78 [(0, .ref 0), (1, .int r10)] [.int ((mI m 0 14))] (m, S) (some (.int r0)) (mf, S)
            exact rsub [(0, .ref 0), (1, .int r10)] ⟨rfl, ⟨rfl, trivial⟩⟩ ⟨rfl, ⟨rfl, trivial⟩⟩ (jp78 ((mI m 0 14)) h)
          · rw [if_neg c25] at h
            refine rjf (a := (74, [(0, .ref 0), (1, .int r10)], [])) (b := (67, [(0, .ref 0), (1, .int r10)], [])) rfl rfl c25 ?_
            refine rsn 1 (t := (68, [(0, .ref 0), (1, .int r10)], [.ref 0])) rfl ?_
            refine pgI rfl rfl rfl (hSh.k 0 rfl _) ?_
            show RN xs L al (Ev xs L al d) 151 71 [(0, .ref 0), (1, .int r10)] [.int ((mI m 0 13))] (m, S) (some (.int r0)) (mf, S)
            refine rsn 1 (t := (78, [(0, .ref 0), (1, .int r10)], [.int ((mI m 0 13))])) rfl ?_
            exact rsub [(0, .ref 0), (1, .int r10)] ⟨rfl, ⟨rfl, trivial⟩⟩ ⟨rfl, ⟨rfl, trivial⟩⟩ (jp78 ((mI m 0 13)) h)
        rw [jn] at h
        try dsimp only at h
        by_cases c26 : r10 = 0
        · rw [if_pos c26] at h
          refine rjf (a := (63, [(1, .int r10), (0, .ref 0)], [])) (b := (54, [(1, .int r10), (0, .ref 0)], [])) rfl rfl (fun q => q c26) ?_
          refine rsn 1 (t := (55, [(1, .int r10), (0, .ref 0)], [.ref 0])) rfl ?_
          refine rm (st1 := [.retAddr 7, .ref 0]) rfl ⟨rfl, rfl, 7, rfl, rfl⟩ ?_
          obtain ⟨r27, g27, h⟩ := b1_some h
          refine rcV 152 0 [.retAddr 7] rfl rfl rfl (hSh.k 0 rfl _) (Nat.le_of_ble_eq_true rfl) rfl (e_Mo_isWord N (by omega) hSh (by decide) g27) ?_
          show RN xs L al (Ev xs L al d) 151 60 [(1, .int r10), (0, .ref 0)] [.int r27] (m, S) (some (.int r0)) (mf, S)
          by_cases c28 : r27 = 0
          · rw [if_pos c28] at h
            refine rjt (a := (82, [(1, .int r10), (0, .ref 0)], [])) (b := (63, [(1, .int r10), (0, .ref 0)], [])) rfl rfl c28 ?_
            refine rsn 1 (t := (83, [(1, .int r10), (0, .ref 0)], [.int 0])) rfl ?_
            cases h
            exact rret rfl ⟨rfl, rfl, _, _, rfl, rfl, rfl, rfl⟩
          · rw [if_neg c28] at h
            refine rjf (a := (82, [(1, .int r10), (0, .ref 0)], [])) (b := (63, [(1, .int r10), (0, .ref 0)], [])) rfl rfl c28 ?_
            exact rsub [(0, .ref 0), (1, .int r10)] ⟨rfl, ⟨rfl, trivial⟩⟩ ⟨rfl, ⟨rfl, trivial⟩⟩ (jp63 () h)
        · rw [if_neg c26] at h
          refine rjt (a := (63, [(1, .int r10), (0, .ref 0)], [])) (b := (54, [(1, .int r10), (0, .ref 0)], [])) rfl rfl c26 ?_
          exact rsub [(0, .ref 0), (1, .int r10)] ⟨rfl, ⟨rfl, trivial⟩⟩ ⟨rfl, ⟨rfl, trivial⟩⟩ (jp63 () h)
      · rw [if_neg c9] at h
        refine rjf (a := (43, [(0, .ref 0)], [])) (b := (38, [(0, .ref 0)], [])) rfl rfl c9 ?_
        refine rsn 1 (t := (39, [(0, .ref 0)], [.ref 0])) rfl ?_
        obtain ⟨r29, m29, g29, h⟩ := b2_some h
        refine rcV 167 0 [] rfl rfl rfl (hSh.k 0 rfl _) (Nat.le_of_ble_eq_true rfl) rfl (e_Mo_dayLine N (by omega) hSh g29) ?_
        show RN xs L al (Ev xs L al d) 151 42 [(0, .ref 0)] [.int r29] (m29, S) (some (.int r0)) (mf, S)
        obtain ⟨c30, h⟩ := ck_some h
        cases h
        exact rret rfl ⟨rfl, rfl, _, _, rfl, rfl, rfl, nz_of c30⟩
    · rw [if_neg c7] at h
      refine rjf (a := (29, [(0, .ref 0)], [])) (b := (18, [(0, .ref 0)], [])) rfl rfl c7 ?_
      refine rsn 2 (t := (20, [(0, .ref 0)], [.ref 0, .ref 0])) rfl ?_
      refine rm (st1 := [.retAddr 1, .ref 0, .ref 0]) rfl ⟨rfl, rfl, 1, rfl, rfl⟩ ?_
      obtain ⟨r31, g31, h⟩ := b1_some h
      refine rcV 152 0 [.retAddr 1] rfl rfl rfl (hSh.k 0 rfl _) (Nat.le_of_ble_eq_true rfl) rfl (e_Mo_isWord N (by omega) hSh (by decide) g31) ?_
      show RN xs L al (Ev xs L al d) 151 25 [(0, .ref 0)] [.int r31, .ref 0] (m, S) (some (.int r0)) (mf, S)
      obtain ⟨r32, m32, g32, h⟩ := b2_some h
      refine rcV 161 0 [.int r31] rfl rfl rfl (hSh.k 0 rfl _) (Nat.le_of_ble_eq_true rfl) rfl (e_Mo_heirLine N (by omega) hSh g32) ?_
      show RN xs L al (Ev xs L al d) 151 28 [(0, .ref 0)] [.int r32] (m32, S) (some (.int r0)) (mf, S)
      obtain ⟨c33, h⟩ := ck_some h
      cases h
      exact rret rfl ⟨rfl, rfl, _, _, rfl, rfl, rfl, nz_of c33⟩
  · rw [if_neg c2] at h
    refine rjt (a := (18, [(0, .ref 0)], [])) (b := (9, [(0, .ref 0)], [])) rfl rfl c2 ?_
    refine rsn 2 (t := (20, [(0, .ref 0)], [.ref 0, .ref 0])) rfl ?_
    refine rm (st1 := [.retAddr 1, .ref 0, .ref 0]) rfl ⟨rfl, rfl, 1, rfl, rfl⟩ ?_
    obtain ⟨r3, g3, h⟩ := b1_some h
    refine rcV 152 0 [.retAddr 1] rfl rfl rfl (hSh.k 0 rfl _) (Nat.le_of_ble_eq_true rfl) rfl (e_Mo_isWord N (by omega) hSh (by decide) g3) ?_
    show RN xs L al (Ev xs L al d) 151 25 [(0, .ref 0)] [.int r3, .ref 0] (m, S) (some (.int r0)) (mf, S)
    obtain ⟨r4, m4, g4, h⟩ := b2_some h
    refine rcV 161 0 [.int r3] rfl rfl rfl (hSh.k 0 rfl _) (Nat.le_of_ble_eq_true rfl) rfl (e_Mo_heirLine N (by omega) hSh g4) ?_
    show RN xs L al (Ev xs L al d) 151 28 [(0, .ref 0)] [.int r4] (m4, S) (some (.int r0)) (mf, S)
    obtain ⟨c5, h⟩ := ck_some h
    cases h
    exact rret rfl ⟨rfl, rfl, _, _, rfl, rfl, rfl, nz_of c5⟩
def f_Mo_fault_L29 (N : Nat) (k29 : Mm → Option (Int32 × Mm)) : Nat → Mm → Option (Int32 × Mm)
  | 0, _ => none
  | n29 + 1, m => (if ((mI m 0 3)) = 0 then k29 m else b2 (f_Mo_line N m) fun r3 m3 => (if r3 = 0 then some ((mI m3 0 4), m3) else f_Mo_fault_L29 N k29 n29 m3))
def f_Mo_fault_L50 (N : Nat) (m : Mm) (k50 : Int32 → Option (Int32 × Mm)) : Nat → Int32 → Option (Int32 × Mm)
  | 0, _ => none
  | n50 + 1, x1 => (if ((mI m 0 6)) ≤ x1 then k50 x1 else ck (ix x1 3) ((if ((mX m 3 x1.toNatClampNeg)) = 0 then some ((-1), m) else f_Mo_fault_L50 N m k50 n50 ((x1 + 1)))))
def f_Mo_fault (N : Nat) (m : Mm) : Option (Int32 × Mm) := b3 (f_Mo_next N (vI (vI (vI (vI (vI m 0 6 0) 0 10 0) 0 13 ((-1))) 0 14 ((-1))) 0 2 0)) fun m1 => f_Mo_fault_L29 N (fun (m5 : Mm) => f_Mo_fault_L50 N m5 (fun (z9_1 : Int32) => some ((mI m5 0 4), m5)) N 0) N m1
set_option maxRecDepth 20000 in
set_option maxHeartbeats 4000000 in
theorem e_Mo_fault {xs : Nat → Int32} {L : Nat} {al : Bool} (N : Nat) {d : Nat} (hd : 11 ≤ d) {S : St} (hSh : ShR S) {m : Mm} {r0 : Int32} {mf : Mm} (h : f_Mo_fault N m = some (r0, mf)) : Ev xs L al d 147 [.ref 0] (m, S) (some (.int r0)) (mf, S) := by
  obtain ⟨d, rfl⟩ : ∃ e, d = e + 1 := ⟨d - 1, by omega⟩
  refine ev_of (by decide) (Nat.le_of_ble_eq_true rfl) ?_
  rw [f_Mo_fault] at h
  show RN xs L al (Ev xs L al d) 147 0 [(0, .ref 0)] [] (m, S) (some (.int r0)) (mf, S)
  refine rsn 2 (t := (2, [(0, .ref 0)], [.int 0, .ref 0])) rfl ?_
  refine ppI rfl rfl rfl rfl (hSh.k 0 rfl _) ?_
  refine rsn 2 (t := (7, [(0, .ref 0)], [.int 0, .ref 0])) rfl ?_
  refine ppI rfl rfl rfl rfl (hSh.k 0 rfl _) ?_
  refine rsn 2 (t := (12, [(0, .ref 0)], [.int ((-1)), .ref 0])) rfl ?_
  refine ppI rfl rfl rfl rfl (hSh.k 0 rfl _) ?_
  refine rsn 2 (t := (17, [(0, .ref 0)], [.int ((-1)), .ref 0])) rfl ?_
  refine ppI rfl rfl rfl rfl (hSh.k 0 rfl _) ?_
  refine rsn 2 (t := (22, [(0, .ref 0)], [.int 0, .ref 0])) rfl ?_
  refine ppI rfl rfl rfl rfl (hSh.k 0 rfl _) ?_
  refine rsn 1 (t := (26, [(0, .ref 0)], [.ref 0])) rfl ?_
  obtain ⟨m1, g1, h⟩ := b3_some h
  refine rcV 148 0 [] rfl rfl rfl (hSh.k 0 rfl _) (Nat.le_of_ble_eq_true rfl) rfl (e_Mo_next N (by omega) hSh g1) ?_
  show RN xs L al (Ev xs L al d) 147 29 [(0, .ref 0)] [] (m1, S) (some (.int r0)) (mf, S)
  have ex29 : ∀ (m5 : Mm), (f_Mo_fault_L50 N m5 (fun (z9_1 : Int32) => some ((mI m5 0 4), m5)) N 0) = some (r0, mf) → RN xs L al (Ev xs L al d) 147 48 [(0, .ref 0)] [] (m5, S) (some (.int r0)) (mf, S) := by
    intro m5 h
    try dsimp only at h
    refine rsn 2 (t := (50, [(1, .int 0), (0, .ref 0)], [])) rfl ?_
    have ex50 : ∀ (z9_1 : Int32), (some ((mI m5 0 4), m5)) = some (r0, mf) → RN xs L al (Ev xs L al d) 147 75 [(0, .ref 0)] [] (m5, S) (some (.int r0)) (mf, S) := by
      intro z9_1 h
      try dsimp only at h
      refine rsn 1 (t := (76, [(0, .ref 0)], [.ref 0])) rfl ?_
      refine pgI rfl rfl rfl (hSh.k 0 rfl _) ?_
      show RN xs L al (Ev xs L al d) 147 79 [(0, .ref 0)] [.int ((mI m5 0 4))] (m5, S) (some (.int r0)) (mf, S)
      cases h
      exact rret rfl ⟨rfl, rfl, _, _, rfl, rfl, rfl, rfl⟩
    have lp50 : ∀ (n : Nat) (y10_1 : Int32), (f_Mo_fault_L50 N m5 (fun (z9_1 : Int32) => some ((mI m5 0 4), m5)) n y10_1) = some (r0, mf) → RN xs L al (Ev xs L al d) 147 50 [(0, .ref 0), (1, .int y10_1)] [] (m5, S) (some (.int r0)) (mf, S) := by
      intro n
      induction n with
      | zero => intro y10_1 h; exact absurd h (by simp [f_Mo_fault_L50])
      | succ n50 ih50 =>
        intro y10_1 h
        try dsimp only at h
        rw [f_Mo_fault_L50] at h
        try dsimp only at h
        refine rsn 2 (t := (52, [(0, .ref 0), (1, .int y10_1)], [.ref 0, .int y10_1])) rfl ?_
        refine pgI rfl rfl rfl (hSh.k 0 rfl _) ?_
        show RN xs L al (Ev xs L al d) 147 55 [(0, .ref 0), (1, .int y10_1)] [.int ((mI m5 0 6)), .int y10_1] (m5, S) (some (.int r0)) (mf, S)
        by_cases c11 : ((mI m5 0 6)) ≤ y10_1
        · rw [if_pos c11] at h
          refine rjt (a := (75, [(0, .ref 0), (1, .int y10_1)], [])) (b := (58, [(0, .ref 0), (1, .int y10_1)], [])) rfl rfl c11 ?_
          exact rsub [(0, .ref 0)] ⟨rfl, trivial⟩ ⟨rfl, trivial⟩ (ex50 y10_1 h)
        · rw [if_neg c11] at h
          refine rjf (a := (75, [(0, .ref 0), (1, .int y10_1)], [])) (b := (58, [(0, .ref 0), (1, .int y10_1)], [])) rfl rfl c11 ?_
          refine rsn 1 (t := (59, [(0, .ref 0), (1, .int y10_1)], [.ref 0])) rfl ?_
          refine rgR rfl rfl rfl (hSh.k 0 rfl _) (hSh.r 2 rfl _) ?_
          refine rsn 1 (t := (63, [(0, .ref 0), (1, .int y10_1)], [.int y10_1, .ref 3])) rfl ?_
          obtain ⟨c12, h⟩ := ck_some h
          refine pxB rfl (Or.inr (hSh.k 3 rfl _)) (hSh.l 2 rfl _) c12 ?_
          show RN xs L al (Ev xs L al d) 147 64 [(0, .ref 0), (1, .int y10_1)] [.int ((mX m5 3 y10_1.toNatClampNeg))] (m5, S) (some (.int r0)) (mf, S)
          by_cases c13 : ((mX m5 3 y10_1.toNatClampNeg)) = 0
          · rw [if_pos c13] at h
            refine rjf (a := (69, [(0, .ref 0), (1, .int y10_1)], [])) (b := (67, [(0, .ref 0), (1, .int y10_1)], [])) rfl rfl (fun q => q c13) ?_
            refine rsn 1 (t := (68, [(0, .ref 0), (1, .int y10_1)], [.int ((-1))])) rfl ?_
            cases h
            exact rret rfl ⟨rfl, rfl, _, _, rfl, rfl, rfl, rfl⟩
          · rw [if_neg c13] at h
            refine rjt (a := (69, [(0, .ref 0), (1, .int y10_1)], [])) (b := (67, [(0, .ref 0), (1, .int y10_1)], [])) rfl rfl c13 ?_
            refine rsn 2 (t := (50, [(1, .int ((y10_1 + 1))), (0, .ref 0)], [])) rfl ?_
            exact rsub [(0, .ref 0), (1, .int ((y10_1 + 1)))] ⟨rfl, ⟨rfl, trivial⟩⟩ ⟨rfl, ⟨rfl, trivial⟩⟩ (ih50 ((y10_1 + 1)) h)
    exact rsub [(0, .ref 0), (1, .int 0)] ⟨rfl, ⟨rfl, trivial⟩⟩ ⟨rfl, ⟨rfl, trivial⟩⟩ (lp50 N 0 h)
  have lp29 : ∀ (n : Nat) (m14 : Mm), (f_Mo_fault_L29 N (fun (m5 : Mm) => f_Mo_fault_L50 N m5 (fun (z9_1 : Int32) => some ((mI m5 0 4), m5)) N 0) n m14) = some (r0, mf) → RN xs L al (Ev xs L al d) 147 29 [(0, .ref 0)] [] (m14, S) (some (.int r0)) (mf, S) := by
    intro n
    induction n with
    | zero => intro m14 h; exact absurd h (by simp [f_Mo_fault_L29])
    | succ n29 ih29 =>
      intro m14 h
      try dsimp only at h
      rw [f_Mo_fault_L29] at h
      try dsimp only at h
      refine rsn 1 (t := (30, [(0, .ref 0)], [.ref 0])) rfl ?_
      refine pgI rfl rfl rfl (hSh.k 0 rfl _) ?_
      show RN xs L al (Ev xs L al d) 147 33 [(0, .ref 0)] [.int ((mI m14 0 3))] (m14, S) (some (.int r0)) (mf, S)
      by_cases c15 : ((mI m14 0 3)) = 0
      · rw [if_pos c15] at h
        refine rjt (a := (48, [(0, .ref 0)], [])) (b := (36, [(0, .ref 0)], [])) rfl rfl c15 ?_
        exact rsub [(0, .ref 0)] ⟨rfl, trivial⟩ ⟨rfl, trivial⟩ (ex29 m14 h)
      · rw [if_neg c15] at h
        refine rjf (a := (48, [(0, .ref 0)], [])) (b := (36, [(0, .ref 0)], [])) rfl rfl c15 ?_
        refine rsn 1 (t := (37, [(0, .ref 0)], [.ref 0])) rfl ?_
        obtain ⟨r16, m16, g16, h⟩ := b2_some h
        refine rcV 151 0 [] rfl rfl rfl (hSh.k 0 rfl _) (Nat.le_of_ble_eq_true rfl) rfl (e_Mo_line N (by omega) hSh g16) ?_
        show RN xs L al (Ev xs L al d) 147 40 [(0, .ref 0)] [.int r16] (m16, S) (some (.int r0)) (mf, S)
        by_cases c17 : r16 = 0
        · rw [if_pos c17] at h
          refine rjf (a := (29, [(0, .ref 0)], [])) (b := (43, [(0, .ref 0)], [])) rfl rfl (fun q => q c17) ?_
          refine rsn 1 (t := (44, [(0, .ref 0)], [.ref 0])) rfl ?_
          refine pgI rfl rfl rfl (hSh.k 0 rfl _) ?_
          show RN xs L al (Ev xs L al d) 147 47 [(0, .ref 0)] [.int ((mI m16 0 4))] (m16, S) (some (.int r0)) (mf, S)
          cases h
          exact rret rfl ⟨rfl, rfl, _, _, rfl, rfl, rfl, rfl⟩
        · rw [if_neg c17] at h
          refine rjt (a := (29, [(0, .ref 0)], [])) (b := (43, [(0, .ref 0)], [])) rfl rfl c17 ?_
          exact rsub [(0, .ref 0)] ⟨rfl, trivial⟩ ⟨rfl, trivial⟩ (ih29 m16 h)
  exact rsub [(0, .ref 0)] ⟨rfl, trivial⟩ ⟨rfl, trivial⟩ (lp29 N m1 h)
def f_Mo_forgets_L7 (N : Nat) (k7 : Int32 → Mm → Option (Mm)) : Nat → Int32 → Mm → Option (Mm)
  | 0, _, _ => none
  | n7 + 1, x1, m => (if 262144 ≤ x1 then k7 x1 m else ck (ix x1 262144) (f_Mo_forgets_L7 N k7 n7 ((x1 + 1)) ((vY m 14 x1.toNatClampNeg 0))))
def f_Mo_forgets (N : Nat) (m : Mm) : Option (Mm) := f_Mo_forgets_L7 N (fun (z3_1 : Int32) (m3 : Mm) => some m3) N 0 (vI m 0 33 0)
set_option maxRecDepth 20000 in
set_option maxHeartbeats 4000000 in
theorem e_Mo_forgets {xs : Nat → Int32} {L : Nat} {al : Bool} (N : Nat) {d : Nat} (hd : 1 ≤ d) {S : St} (hSh : ShR S) {m : Mm} {mf : Mm} (h : f_Mo_forgets N m = some mf) : Ev xs L al d 170 [.ref 0] (m, S) none (mf, S) := by
  obtain ⟨d, rfl⟩ : ∃ e, d = e + 1 := ⟨d - 1, by omega⟩
  refine ev_of (by decide) (Nat.le_of_ble_eq_true rfl) ?_
  rw [f_Mo_forgets] at h
  show RN xs L al (Ev xs L al d) 170 0 [(0, .ref 0)] [] (m, S) none (mf, S)
  refine rsn 2 (t := (2, [(0, .ref 0)], [.int 0, .ref 0])) rfl ?_
  refine ppI rfl rfl rfl rfl (hSh.k 0 rfl _) ?_
  refine rsn 2 (t := (7, [(1, .int 0), (0, .ref 0)], [])) rfl ?_
  have ex7 : ∀ (z3_1 : Int32) (m3 : Mm), (some m3) = some mf → RN xs L al (Ev xs L al d) 170 26 [] [] (m3, S) none (mf, S) := by
    intro z3_1 m3 h
    try dsimp only at h
    cases h
    exact rret rfl ⟨rfl, rfl, rfl, rfl, rfl⟩
  have lp7 : ∀ (n : Nat) (y4_1 : Int32) (m4 : Mm), (f_Mo_forgets_L7 N (fun (z3_1 : Int32) (m3 : Mm) => some m3) n y4_1 m4) = some mf → RN xs L al (Ev xs L al d) 170 7 [(0, .ref 0), (1, .int y4_1)] [] (m4, S) none (mf, S) := by
    intro n
    induction n with
    | zero => intro y4_1 m4 h; exact absurd h (by simp [f_Mo_forgets_L7])
    | succ n7 ih7 =>
      intro y4_1 m4 h
      try dsimp only at h
      rw [f_Mo_forgets_L7] at h
      try dsimp only at h
      refine rsn 2 (t := (10, [(0, .ref 0), (1, .int y4_1)], [.int 262144, .int y4_1])) rfl ?_
      by_cases c5 : 262144 ≤ y4_1
      · rw [if_pos c5] at h
        refine rjt (a := (26, [(0, .ref 0), (1, .int y4_1)], [])) (b := (13, [(0, .ref 0), (1, .int y4_1)], [])) rfl rfl c5 ?_
        exact rsub [] trivial trivial (ex7 y4_1 m4 h)
      · rw [if_neg c5] at h
        refine rjf (a := (26, [(0, .ref 0), (1, .int y4_1)], [])) (b := (13, [(0, .ref 0), (1, .int y4_1)], [])) rfl rfl c5 ?_
        refine rsn 1 (t := (14, [(0, .ref 0), (1, .int y4_1)], [.ref 0])) rfl ?_
        refine rgR rfl rfl rfl (hSh.k 0 rfl _) (hSh.r 13 rfl _) ?_
        refine rsn 2 (t := (19, [(0, .ref 0), (1, .int y4_1)], [.long 0, .int y4_1, .ref 14])) rfl ?_
        obtain ⟨c6, h⟩ := ck_some h
        refine psJ rfl (hSh.k 14 rfl _) (hSh.l 13 rfl _) c6 ?_
        refine rsn 2 (t := (7, [(1, .int ((y4_1 + 1))), (0, .ref 0)], [])) rfl ?_
        exact rsub [(0, .ref 0), (1, .int ((y4_1 + 1)))] ⟨rfl, ⟨rfl, trivial⟩⟩ ⟨rfl, ⟨rfl, trivial⟩⟩ (ih7 ((y4_1 + 1)) ((vY m4 14 y4_1.toNatClampNeg 0)) h)
  exact rsub [(0, .ref 0), (1, .int 0)] ⟨rfl, ⟨rfl, trivial⟩⟩ ⟨rfl, ⟨rfl, trivial⟩⟩ (lp7 N 0 (vI m 0 33 0) h)
def f_Mo_matter_L78 (N : Nat) (k78 : Int32 → Mm → Option (Int32 × Mm)) : Nat → Int32 → Mm → Option (Int32 × Mm)
  | 0, _, _ => none
  | n78 + 1, x1, m => (if ((mI m 0 16)) ≤ x1 then k78 x1 m else ck (ix x1 3) ((if ((mX m 3 x1.toNatClampNeg)) = 0 then f_Mo_matter_L78 N k78 n78 ((x1 + 1)) ((vJ m 0 23 ((((mJ m 0 23)) ||| ((lsl 1 ((36 + x1)))))))) else f_Mo_matter_L78 N k78 n78 ((x1 + 1)) m)))
def f_Mo_matter_L118 (N : Nat) (k118 : Int32 → Mm → Option (Int32 × Mm)) : Nat → Int32 → Mm → Option (Int32 × Mm)
  | 0, _, _ => none
  | n118 + 1, x1, m => (if 9 ≤ x1 then k118 x1 m else ck (ix x1 9) (ck (ix x1 9) (f_Mo_matter_L118 N k118 n118 ((x1 + 1)) ((vX m 7 x1.toNatClampNeg ((mX m 4 x1.toNatClampNeg)))))))
def f_Mo_matter_L144 (N : Nat) (k144 : Int32 → Mm → Option (Int32 × Mm)) : Nat → Int32 → Mm → Option (Int32 × Mm)
  | 0, _, _ => none
  | n144 + 1, x1, m => (if 6 ≤ x1 then k144 x1 m else ck (ix x1 6) (ck (ix x1 6) (f_Mo_matter_L144 N k144 n144 ((x1 + 1)) ((vX m 8 x1.toNatClampNeg ((mX m 5 x1.toNatClampNeg)))))))
def f_Mo_matter_L170 (N : Nat) (k170 : Int32 → Mm → Option (Int32 × Mm)) : Nat → Int32 → Mm → Option (Int32 × Mm)
  | 0, _, _ => none
  | n170 + 1, x1, m => (if ((Int32.ofNat 54)) ≤ x1 then k170 x1 m else ck (ix x1 54) (ck (ix x1 54) (f_Mo_matter_L170 N k170 n170 ((x1 + 1)) ((vX m 9 x1.toNatClampNeg ((mX m 6 x1.toNatClampNeg)))))))
def f_Mo_matter_L199 (N : Nat) (k199 : Int32 → Mm → Option (Int32 × Mm)) : Nat → Int32 → Mm → Option (Int32 × Mm)
  | 0, _, _ => none
  | n199 + 1, x1, m => (if 4 ≤ x1 then k199 x1 m else ck (ix x1 4) (f_Mo_matter_L199 N k199 n199 ((x1 + 1)) ((vX m 13 x1.toNatClampNeg ((vp_nar .boolean 0))))))
def f_Mo_matter (N : Nat) (m : Mm) : Option (Int32 × Mm) := b2 (f_Mo_fault N m) fun r1 m1 => (if r1 = ((-1)) then (jn (fun (s3 : Int32) => (jn (fun (s4 : Int32) => f_Mo_matter_L78 N (fun (z8_1 : Int32) (m8 : Mm) => f_Mo_matter_L118 N (fun (z12_1 : Int32) (m12 : Mm) => f_Mo_matter_L144 N (fun (z16_1 : Int32) (m16 : Mm) => f_Mo_matter_L170 N (fun (z20_1 : Int32) (m20 : Mm) => f_Mo_matter_L199 N (fun (z23_1 : Int32) (m23 : Mm) => b3 (f_Mo_forgets N (vI (vI (vI m23 0 24 0) 0 25 ((-1))) 0 1 0)) fun m24 => some ((mI m24 0 16), m24)) N 0 m20) N 0 m16) N 0 m12) N 0 m8) N 0 (vJ (vI (vI (vI (vI (vI m1 0 15 1) 0 16 ((mI m1 0 6))) 0 18 ((mI m1 0 10))) 0 21 s3) 0 22 s4) 0 23 0)) (fun j68 => if ((mI m1 0 14)) = ((-1)) then j68 0 else j68 ((mI m1 0 14))))) (fun j48 => if ((mI m1 0 13)) = ((-1)) then j48 0 else j48 ((mI m1 0 13)))) else some ((-1), m1))
set_option maxRecDepth 20000 in
set_option maxHeartbeats 4000000 in
theorem e_Mo_matter {xs : Nat → Int32} {L : Nat} {al : Bool} (N : Nat) {d : Nat} (hd : 12 ≤ d) {S : St} (hSh : ShR S) {m : Mm} {r0 : Int32} {mf : Mm} (h : f_Mo_matter N m = some (r0, mf)) : Ev xs L al d 169 [.ref 0] (m, S) (some (.int r0)) (mf, S) := by
  obtain ⟨d, rfl⟩ : ∃ e, d = e + 1 := ⟨d - 1, by omega⟩
  refine ev_of (by decide) (Nat.le_of_ble_eq_true rfl) ?_
  rw [f_Mo_matter] at h
  show RN xs L al (Ev xs L al d) 169 0 [(0, .ref 0)] [] (m, S) (some (.int r0)) (mf, S)
  refine rsn 1 (t := (1, [(0, .ref 0)], [.ref 0])) rfl ?_
  obtain ⟨r1, m1, g1, h⟩ := b2_some h
  refine rcV 147 0 [] rfl rfl rfl (hSh.k 0 rfl _) (Nat.le_of_ble_eq_true rfl) rfl (e_Mo_fault N (by omega) hSh g1) ?_
  show RN xs L al (Ev xs L al d) 169 4 [(0, .ref 0)] [.int r1] (m1, S) (some (.int r0)) (mf, S)
  refine rsn 1 (t := (5, [(0, .ref 0)], [.int ((-1)), .int r1])) rfl ?_
  by_cases c2 : r1 = ((-1))
  · rw [if_pos c2] at h
    refine rjt (a := (10, [(0, .ref 0)], [])) (b := (8, [(0, .ref 0)], [])) rfl rfl c2 ?_
    refine rsn 2 (t := (12, [(0, .ref 0)], [.int 1, .ref 0])) rfl ?_
    refine ppZ rfl rfl rfl rfl (hSh.k 0 rfl _) (Or.inr rfl) ?_
    refine rsn 2 (t := (17, [(0, .ref 0)], [.ref 0, .ref 0])) rfl ?_
    refine pgI rfl rfl rfl (hSh.k 0 rfl _) ?_
    show RN xs L al (Ev xs L al d) 169 20 [(0, .ref 0)] [.int ((mI m1 0 6)), .ref 0] ((vI m1 0 15 1), S) (some (.int r0)) (mf, S)
    refine ppI rfl rfl rfl rfl (hSh.k 0 rfl _) ?_
    refine rsn 2 (t := (25, [(0, .ref 0)], [.ref 0, .ref 0])) rfl ?_
    refine pgI rfl rfl rfl (hSh.k 0 rfl _) ?_
    show RN xs L al (Ev xs L al d) 169 28 [(0, .ref 0)] [.int ((mI m1 0 10)), .ref 0] ((vI (vI m1 0 15 1) 0 16 ((mI m1 0 6))), S) (some (.int r0)) (mf, S)
    refine ppI rfl rfl rfl rfl (hSh.k 0 rfl _) ?_
    refine rsn 2 (t := (33, [(0, .ref 0)], [.ref 0, .ref 0])) rfl ?_
    refine pgI rfl rfl rfl (hSh.k 0 rfl _) ?_
    show RN xs L al (Ev xs L al d) 169 36 [(0, .ref 0)] [.int ((mI m1 0 13)), .ref 0] ((vI (vI (vI m1 0 15 1) 0 16 ((mI m1 0 6))) 0 18 ((mI m1 0 10))), S) (some (.int r0)) (mf, S)
    refine rsn 1 (t := (37, [(0, .ref 0)], [.int ((-1)), .int ((mI m1 0 13)), .ref 0])) rfl ?_
    have jp48 : ∀ (s3 : Int32), ((jn (fun (s4 : Int32) => f_Mo_matter_L78 N (fun (z8_1 : Int32) (m8 : Mm) => f_Mo_matter_L118 N (fun (z12_1 : Int32) (m12 : Mm) => f_Mo_matter_L144 N (fun (z16_1 : Int32) (m16 : Mm) => f_Mo_matter_L170 N (fun (z20_1 : Int32) (m20 : Mm) => f_Mo_matter_L199 N (fun (z23_1 : Int32) (m23 : Mm) => b3 (f_Mo_forgets N (vI (vI (vI m23 0 24 0) 0 25 ((-1))) 0 1 0)) fun m24 => some ((mI m24 0 16), m24)) N 0 m20) N 0 m16) N 0 m12) N 0 m8) N 0 (vJ (vI (vI (vI (vI (vI m1 0 15 1) 0 16 ((mI m1 0 6))) 0 18 ((mI m1 0 10))) 0 21 s3) 0 22 s4) 0 23 0)) (fun j68 => if ((mI m1 0 14)) = ((-1)) then j68 0 else j68 ((mI m1 0 14))))) = some (r0, mf) → RN xs L al (Ev xs L al d) 169 48 [(0, .ref 0)] [.int s3, .ref 0] ((vI (vI (vI m1 0 15 1) 0 16 ((mI m1 0 6))) 0 18 ((mI m1 0 10))), S) (some (.int r0)) (mf, S) := by
      intro s3 h
      try dsimp only at h
      refine ppI rfl rfl rfl rfl (hSh.k 0 rfl _) ?_
      refine rsn 2 (t := (53, [(0, .ref 0)], [.ref 0, .ref 0])) rfl ?_
      refine pgI rfl rfl rfl (hSh.k 0 rfl _) ?_
      show RN xs L al (Ev xs L al d) 169 56 [(0, .ref 0)] [.int ((mI m1 0 14)), .ref 0] ((vI (vI (vI (vI m1 0 15 1) 0 16 ((mI m1 0 6))) 0 18 ((mI m1 0 10))) 0 21 s3), S) (some (.int r0)) (mf, S)
      refine rsn 1 (t := (57, [(0, .ref 0)], [.int ((-1)), .int ((mI m1 0 14)), .ref 0])) rfl ?_
      have jp68 : ∀ (s4 : Int32), (f_Mo_matter_L78 N (fun (z8_1 : Int32) (m8 : Mm) => f_Mo_matter_L118 N (fun (z12_1 : Int32) (m12 : Mm) => f_Mo_matter_L144 N (fun (z16_1 : Int32) (m16 : Mm) => f_Mo_matter_L170 N (fun (z20_1 : Int32) (m20 : Mm) => f_Mo_matter_L199 N (fun (z23_1 : Int32) (m23 : Mm) => b3 (f_Mo_forgets N (vI (vI (vI m23 0 24 0) 0 25 ((-1))) 0 1 0)) fun m24 => some ((mI m24 0 16), m24)) N 0 m20) N 0 m16) N 0 m12) N 0 m8) N 0 (vJ (vI (vI (vI (vI (vI m1 0 15 1) 0 16 ((mI m1 0 6))) 0 18 ((mI m1 0 10))) 0 21 s3) 0 22 s4) 0 23 0)) = some (r0, mf) → RN xs L al (Ev xs L al d) 169 68 [(0, .ref 0)] [.int s4, .ref 0] ((vI (vI (vI (vI m1 0 15 1) 0 16 ((mI m1 0 6))) 0 18 ((mI m1 0 10))) 0 21 s3), S) (some (.int r0)) (mf, S) := by
        intro s4 h
        try dsimp only at h
        refine ppI rfl rfl rfl rfl (hSh.k 0 rfl _) ?_
        refine rsn 2 (t := (73, [(0, .ref 0)], [.long 0, .ref 0])) rfl ?_
        refine ppJ rfl rfl rfl rfl (hSh.k 0 rfl _) ?_
        refine rsn 2 (t := (78, [(1, .int 0), (0, .ref 0)], [])) rfl ?_
        have ex78 : ∀ (z8_1 : Int32) (m8 : Mm), (f_Mo_matter_L118 N (fun (z12_1 : Int32) (m12 : Mm) => f_Mo_matter_L144 N (fun (z16_1 : Int32) (m16 : Mm) => f_Mo_matter_L170 N (fun (z20_1 : Int32) (m20 : Mm) => f_Mo_matter_L199 N (fun (z23_1 : Int32) (m23 : Mm) => b3 (f_Mo_forgets N (vI (vI (vI m23 0 24 0) 0 25 ((-1))) 0 1 0)) fun m24 => some ((mI m24 0 16), m24)) N 0 m20) N 0 m16) N 0 m12) N 0 m8) = some (r0, mf) → RN xs L al (Ev xs L al d) 169 116 [(0, .ref 0)] [] (m8, S) (some (.int r0)) (mf, S) := by
          intro z8_1 m8 h
          try dsimp only at h
          refine rsn 2 (t := (118, [(1, .int 0), (0, .ref 0)], [])) rfl ?_
          have ex118 : ∀ (z12_1 : Int32) (m12 : Mm), (f_Mo_matter_L144 N (fun (z16_1 : Int32) (m16 : Mm) => f_Mo_matter_L170 N (fun (z20_1 : Int32) (m20 : Mm) => f_Mo_matter_L199 N (fun (z23_1 : Int32) (m23 : Mm) => b3 (f_Mo_forgets N (vI (vI (vI m23 0 24 0) 0 25 ((-1))) 0 1 0)) fun m24 => some ((mI m24 0 16), m24)) N 0 m20) N 0 m16) N 0 m12) = some (r0, mf) → RN xs L al (Ev xs L al d) 169 142 [(0, .ref 0)] [] (m12, S) (some (.int r0)) (mf, S) := by
            intro z12_1 m12 h
            try dsimp only at h
            refine rsn 2 (t := (144, [(1, .int 0), (0, .ref 0)], [])) rfl ?_
            have ex144 : ∀ (z16_1 : Int32) (m16 : Mm), (f_Mo_matter_L170 N (fun (z20_1 : Int32) (m20 : Mm) => f_Mo_matter_L199 N (fun (z23_1 : Int32) (m23 : Mm) => b3 (f_Mo_forgets N (vI (vI (vI m23 0 24 0) 0 25 ((-1))) 0 1 0)) fun m24 => some ((mI m24 0 16), m24)) N 0 m20) N 0 m16) = some (r0, mf) → RN xs L al (Ev xs L al d) 169 168 [(0, .ref 0)] [] (m16, S) (some (.int r0)) (mf, S) := by
              intro z16_1 m16 h
              try dsimp only at h
              refine rsn 2 (t := (170, [(1, .int 0), (0, .ref 0)], [])) rfl ?_
              have ex170 : ∀ (z20_1 : Int32) (m20 : Mm), (f_Mo_matter_L199 N (fun (z23_1 : Int32) (m23 : Mm) => b3 (f_Mo_forgets N (vI (vI (vI m23 0 24 0) 0 25 ((-1))) 0 1 0)) fun m24 => some ((mI m24 0 16), m24)) N 0 m20) = some (r0, mf) → RN xs L al (Ev xs L al d) 169 197 [(0, .ref 0)] [] (m20, S) (some (.int r0)) (mf, S) := by
                intro z20_1 m20 h
                try dsimp only at h
                refine rsn 2 (t := (199, [(1, .int 0), (0, .ref 0)], [])) rfl ?_
                have ex199 : ∀ (z23_1 : Int32) (m23 : Mm), (b3 (f_Mo_forgets N (vI (vI (vI m23 0 24 0) 0 25 ((-1))) 0 1 0)) fun m24 => some ((mI m24 0 16), m24)) = some (r0, mf) → RN xs L al (Ev xs L al d) 169 217 [(0, .ref 0)] [] (m23, S) (some (.int r0)) (mf, S) := by
                  intro z23_1 m23 h
                  try dsimp only at h
                  refine rsn 2 (t := (219, [(0, .ref 0)], [.int 0, .ref 0])) rfl ?_
                  refine ppI rfl rfl rfl rfl (hSh.k 0 rfl _) ?_
                  refine rsn 2 (t := (224, [(0, .ref 0)], [.int ((-1)), .ref 0])) rfl ?_
                  refine ppI rfl rfl rfl rfl (hSh.k 0 rfl _) ?_
                  refine rsn 2 (t := (229, [(0, .ref 0)], [.int 0, .ref 0])) rfl ?_
                  refine ppI rfl rfl rfl rfl (hSh.k 0 rfl _) ?_
                  refine rsn 1 (t := (233, [(0, .ref 0)], [.ref 0])) rfl ?_
                  obtain ⟨m24, g24, h⟩ := b3_some h
                  refine rcV 170 0 [] rfl rfl rfl (hSh.k 0 rfl _) (Nat.le_of_ble_eq_true rfl) rfl (e_Mo_forgets N (by omega) hSh g24) ?_
                  show RN xs L al (Ev xs L al d) 169 236 [(0, .ref 0)] [] (m24, S) (some (.int r0)) (mf, S)
                  refine rsn 1 (t := (237, [(0, .ref 0)], [.ref 0])) rfl ?_
                  refine pgI rfl rfl rfl (hSh.k 0 rfl _) ?_
                  show RN xs L al (Ev xs L al d) 169 240 [(0, .ref 0)] [.int ((mI m24 0 16))] (m24, S) (some (.int r0)) (mf, S)
                  cases h
                  exact rret rfl ⟨rfl, rfl, _, _, rfl, rfl, rfl, rfl⟩
                have lp199 : ∀ (n : Nat) (y25_1 : Int32) (m25 : Mm), (f_Mo_matter_L199 N (fun (z23_1 : Int32) (m23 : Mm) => b3 (f_Mo_forgets N (vI (vI (vI m23 0 24 0) 0 25 ((-1))) 0 1 0)) fun m24 => some ((mI m24 0 16), m24)) n y25_1 m25) = some (r0, mf) → RN xs L al (Ev xs L al d) 169 199 [(0, .ref 0), (1, .int y25_1)] [] (m25, S) (some (.int r0)) (mf, S) := by
                  intro n
                  induction n with
                  | zero => intro y25_1 m25 h; exact absurd h (by simp [f_Mo_matter_L199])
                  | succ n199 ih199 =>
                    intro y25_1 m25 h
                    try dsimp only at h
                    rw [f_Mo_matter_L199] at h
                    try dsimp only at h
                    refine rsn 2 (t := (201, [(0, .ref 0), (1, .int y25_1)], [.int 4, .int y25_1])) rfl ?_
                    by_cases c26 : 4 ≤ y25_1
                    · rw [if_pos c26] at h
                      refine rjt (a := (217, [(0, .ref 0), (1, .int y25_1)], [])) (b := (204, [(0, .ref 0), (1, .int y25_1)], [])) rfl rfl c26 ?_
                      exact rsub [(0, .ref 0)] ⟨rfl, trivial⟩ ⟨rfl, trivial⟩ (ex199 y25_1 m25 h)
                    · rw [if_neg c26] at h
                      refine rjf (a := (217, [(0, .ref 0), (1, .int y25_1)], [])) (b := (204, [(0, .ref 0), (1, .int y25_1)], [])) rfl rfl c26 ?_
                      refine rsn 1 (t := (205, [(0, .ref 0), (1, .int y25_1)], [.ref 0])) rfl ?_
                      refine rgR rfl rfl rfl (hSh.k 0 rfl _) (hSh.r 12 rfl _) ?_
                      refine rsn 2 (t := (210, [(0, .ref 0), (1, .int y25_1)], [.int 0, .int y25_1, .ref 13])) rfl ?_
                      obtain ⟨c27, h⟩ := ck_some h
                      refine psZ rfl (hSh.k 13 rfl _) (hSh.l 12 rfl _) c27 ?_
                      refine rsn 2 (t := (199, [(1, .int ((y25_1 + 1))), (0, .ref 0)], [])) rfl ?_
                      exact rsub [(0, .ref 0), (1, .int ((y25_1 + 1)))] ⟨rfl, ⟨rfl, trivial⟩⟩ ⟨rfl, ⟨rfl, trivial⟩⟩ (ih199 ((y25_1 + 1)) ((vX m25 13 y25_1.toNatClampNeg ((vp_nar .boolean 0)))) h)
                exact rsub [(0, .ref 0), (1, .int 0)] ⟨rfl, ⟨rfl, trivial⟩⟩ ⟨rfl, ⟨rfl, trivial⟩⟩ (lp199 N 0 m20 h)
              have lp170 : ∀ (n : Nat) (y28_1 : Int32) (m28 : Mm), (f_Mo_matter_L170 N (fun (z20_1 : Int32) (m20 : Mm) => f_Mo_matter_L199 N (fun (z23_1 : Int32) (m23 : Mm) => b3 (f_Mo_forgets N (vI (vI (vI m23 0 24 0) 0 25 ((-1))) 0 1 0)) fun m24 => some ((mI m24 0 16), m24)) N 0 m20) n y28_1 m28) = some (r0, mf) → RN xs L al (Ev xs L al d) 169 170 [(0, .ref 0), (1, .int y28_1)] [] (m28, S) (some (.int r0)) (mf, S) := by
                intro n
                induction n with
                | zero => intro y28_1 m28 h; exact absurd h (by simp [f_Mo_matter_L170])
                | succ n170 ih170 =>
                  intro y28_1 m28 h
                  try dsimp only at h
                  rw [f_Mo_matter_L170] at h
                  try dsimp only at h
                  refine rsn 2 (t := (172, [(0, .ref 0), (1, .int y28_1)], [.ref 0, .int y28_1])) rfl ?_
                  refine rgR rfl rfl rfl (hSh.k 0 rfl _) (hSh.r 8 rfl _) ?_
                  refine rxL rfl (hSh.k 9 rfl _) (by decide) (hSh.l 8 rfl _) ?_
                  show RN xs L al (Ev xs L al d) 169 176 [(0, .ref 0), (1, .int y28_1)] [.int ((Int32.ofNat 54)), .int y28_1] (m28, S) (some (.int r0)) (mf, S)
                  by_cases c29 : ((Int32.ofNat 54)) ≤ y28_1
                  · rw [if_pos c29] at h
                    refine rjt (a := (197, [(0, .ref 0), (1, .int y28_1)], [])) (b := (179, [(0, .ref 0), (1, .int y28_1)], [])) rfl rfl c29 ?_
                    exact rsub [(0, .ref 0)] ⟨rfl, trivial⟩ ⟨rfl, trivial⟩ (ex170 y28_1 m28 h)
                  · rw [if_neg c29] at h
                    refine rjf (a := (197, [(0, .ref 0), (1, .int y28_1)], [])) (b := (179, [(0, .ref 0), (1, .int y28_1)], [])) rfl rfl c29 ?_
                    refine rsn 1 (t := (180, [(0, .ref 0), (1, .int y28_1)], [.ref 0])) rfl ?_
                    refine rgR rfl rfl rfl (hSh.k 0 rfl _) (hSh.r 8 rfl _) ?_
                    refine rsn 2 (t := (185, [(0, .ref 0), (1, .int y28_1)], [.ref 0, .int y28_1, .ref 9])) rfl ?_
                    refine rgR rfl rfl rfl (hSh.k 0 rfl _) (hSh.r 5 rfl _) ?_
                    refine rsn 1 (t := (189, [(0, .ref 0), (1, .int y28_1)], [.int y28_1, .ref 6, .int y28_1, .ref 9])) rfl ?_
                    obtain ⟨c30, h⟩ := ck_some h
                    refine pxI rfl (hSh.k 6 rfl _) (hSh.l 5 rfl _) c30 ?_
                    show RN xs L al (Ev xs L al d) 169 190 [(0, .ref 0), (1, .int y28_1)] [.int ((mX m28 6 y28_1.toNatClampNeg)), .int y28_1, .ref 9] (m28, S) (some (.int r0)) (mf, S)
                    obtain ⟨c31, h⟩ := ck_some h
                    refine psI rfl (hSh.k 9 rfl _) (hSh.l 8 rfl _) c31 ?_
                    refine rsn 2 (t := (170, [(1, .int ((y28_1 + 1))), (0, .ref 0)], [])) rfl ?_
                    exact rsub [(0, .ref 0), (1, .int ((y28_1 + 1)))] ⟨rfl, ⟨rfl, trivial⟩⟩ ⟨rfl, ⟨rfl, trivial⟩⟩ (ih170 ((y28_1 + 1)) ((vX m28 9 y28_1.toNatClampNeg ((mX m28 6 y28_1.toNatClampNeg)))) h)
              exact rsub [(0, .ref 0), (1, .int 0)] ⟨rfl, ⟨rfl, trivial⟩⟩ ⟨rfl, ⟨rfl, trivial⟩⟩ (lp170 N 0 m16 h)
            have lp144 : ∀ (n : Nat) (y32_1 : Int32) (m32 : Mm), (f_Mo_matter_L144 N (fun (z16_1 : Int32) (m16 : Mm) => f_Mo_matter_L170 N (fun (z20_1 : Int32) (m20 : Mm) => f_Mo_matter_L199 N (fun (z23_1 : Int32) (m23 : Mm) => b3 (f_Mo_forgets N (vI (vI (vI m23 0 24 0) 0 25 ((-1))) 0 1 0)) fun m24 => some ((mI m24 0 16), m24)) N 0 m20) N 0 m16) n y32_1 m32) = some (r0, mf) → RN xs L al (Ev xs L al d) 169 144 [(0, .ref 0), (1, .int y32_1)] [] (m32, S) (some (.int r0)) (mf, S) := by
              intro n
              induction n with
              | zero => intro y32_1 m32 h; exact absurd h (by simp [f_Mo_matter_L144])
              | succ n144 ih144 =>
                intro y32_1 m32 h
                try dsimp only at h
                rw [f_Mo_matter_L144] at h
                try dsimp only at h
                refine rsn 2 (t := (147, [(0, .ref 0), (1, .int y32_1)], [.int 6, .int y32_1])) rfl ?_
                by_cases c33 : 6 ≤ y32_1
                · rw [if_pos c33] at h
                  refine rjt (a := (168, [(0, .ref 0), (1, .int y32_1)], [])) (b := (150, [(0, .ref 0), (1, .int y32_1)], [])) rfl rfl c33 ?_
                  exact rsub [(0, .ref 0)] ⟨rfl, trivial⟩ ⟨rfl, trivial⟩ (ex144 y32_1 m32 h)
                · rw [if_neg c33] at h
                  refine rjf (a := (168, [(0, .ref 0), (1, .int y32_1)], [])) (b := (150, [(0, .ref 0), (1, .int y32_1)], [])) rfl rfl c33 ?_
                  refine rsn 1 (t := (151, [(0, .ref 0), (1, .int y32_1)], [.ref 0])) rfl ?_
                  refine rgR rfl rfl rfl (hSh.k 0 rfl _) (hSh.r 7 rfl _) ?_
                  refine rsn 2 (t := (156, [(0, .ref 0), (1, .int y32_1)], [.ref 0, .int y32_1, .ref 8])) rfl ?_
                  refine rgR rfl rfl rfl (hSh.k 0 rfl _) (hSh.r 4 rfl _) ?_
                  refine rsn 1 (t := (160, [(0, .ref 0), (1, .int y32_1)], [.int y32_1, .ref 5, .int y32_1, .ref 8])) rfl ?_
                  obtain ⟨c34, h⟩ := ck_some h
                  refine pxI rfl (hSh.k 5 rfl _) (hSh.l 4 rfl _) c34 ?_
                  show RN xs L al (Ev xs L al d) 169 161 [(0, .ref 0), (1, .int y32_1)] [.int ((mX m32 5 y32_1.toNatClampNeg)), .int y32_1, .ref 8] (m32, S) (some (.int r0)) (mf, S)
                  obtain ⟨c35, h⟩ := ck_some h
                  refine psI rfl (hSh.k 8 rfl _) (hSh.l 7 rfl _) c35 ?_
                  refine rsn 2 (t := (144, [(1, .int ((y32_1 + 1))), (0, .ref 0)], [])) rfl ?_
                  exact rsub [(0, .ref 0), (1, .int ((y32_1 + 1)))] ⟨rfl, ⟨rfl, trivial⟩⟩ ⟨rfl, ⟨rfl, trivial⟩⟩ (ih144 ((y32_1 + 1)) ((vX m32 8 y32_1.toNatClampNeg ((mX m32 5 y32_1.toNatClampNeg)))) h)
            exact rsub [(0, .ref 0), (1, .int 0)] ⟨rfl, ⟨rfl, trivial⟩⟩ ⟨rfl, ⟨rfl, trivial⟩⟩ (lp144 N 0 m12 h)
          have lp118 : ∀ (n : Nat) (y36_1 : Int32) (m36 : Mm), (f_Mo_matter_L118 N (fun (z12_1 : Int32) (m12 : Mm) => f_Mo_matter_L144 N (fun (z16_1 : Int32) (m16 : Mm) => f_Mo_matter_L170 N (fun (z20_1 : Int32) (m20 : Mm) => f_Mo_matter_L199 N (fun (z23_1 : Int32) (m23 : Mm) => b3 (f_Mo_forgets N (vI (vI (vI m23 0 24 0) 0 25 ((-1))) 0 1 0)) fun m24 => some ((mI m24 0 16), m24)) N 0 m20) N 0 m16) N 0 m12) n y36_1 m36) = some (r0, mf) → RN xs L al (Ev xs L al d) 169 118 [(0, .ref 0), (1, .int y36_1)] [] (m36, S) (some (.int r0)) (mf, S) := by
            intro n
            induction n with
            | zero => intro y36_1 m36 h; exact absurd h (by simp [f_Mo_matter_L118])
            | succ n118 ih118 =>
              intro y36_1 m36 h
              try dsimp only at h
              rw [f_Mo_matter_L118] at h
              try dsimp only at h
              refine rsn 2 (t := (121, [(0, .ref 0), (1, .int y36_1)], [.int 9, .int y36_1])) rfl ?_
              by_cases c37 : 9 ≤ y36_1
              · rw [if_pos c37] at h
                refine rjt (a := (142, [(0, .ref 0), (1, .int y36_1)], [])) (b := (124, [(0, .ref 0), (1, .int y36_1)], [])) rfl rfl c37 ?_
                exact rsub [(0, .ref 0)] ⟨rfl, trivial⟩ ⟨rfl, trivial⟩ (ex118 y36_1 m36 h)
              · rw [if_neg c37] at h
                refine rjf (a := (142, [(0, .ref 0), (1, .int y36_1)], [])) (b := (124, [(0, .ref 0), (1, .int y36_1)], [])) rfl rfl c37 ?_
                refine rsn 1 (t := (125, [(0, .ref 0), (1, .int y36_1)], [.ref 0])) rfl ?_
                refine rgR rfl rfl rfl (hSh.k 0 rfl _) (hSh.r 6 rfl _) ?_
                refine rsn 2 (t := (130, [(0, .ref 0), (1, .int y36_1)], [.ref 0, .int y36_1, .ref 7])) rfl ?_
                refine rgR rfl rfl rfl (hSh.k 0 rfl _) (hSh.r 3 rfl _) ?_
                refine rsn 1 (t := (134, [(0, .ref 0), (1, .int y36_1)], [.int y36_1, .ref 4, .int y36_1, .ref 7])) rfl ?_
                obtain ⟨c38, h⟩ := ck_some h
                refine pxI rfl (hSh.k 4 rfl _) (hSh.l 3 rfl _) c38 ?_
                show RN xs L al (Ev xs L al d) 169 135 [(0, .ref 0), (1, .int y36_1)] [.int ((mX m36 4 y36_1.toNatClampNeg)), .int y36_1, .ref 7] (m36, S) (some (.int r0)) (mf, S)
                obtain ⟨c39, h⟩ := ck_some h
                refine psI rfl (hSh.k 7 rfl _) (hSh.l 6 rfl _) c39 ?_
                refine rsn 2 (t := (118, [(1, .int ((y36_1 + 1))), (0, .ref 0)], [])) rfl ?_
                exact rsub [(0, .ref 0), (1, .int ((y36_1 + 1)))] ⟨rfl, ⟨rfl, trivial⟩⟩ ⟨rfl, ⟨rfl, trivial⟩⟩ (ih118 ((y36_1 + 1)) ((vX m36 7 y36_1.toNatClampNeg ((mX m36 4 y36_1.toNatClampNeg)))) h)
          exact rsub [(0, .ref 0), (1, .int 0)] ⟨rfl, ⟨rfl, trivial⟩⟩ ⟨rfl, ⟨rfl, trivial⟩⟩ (lp118 N 0 m8 h)
        have lp78 : ∀ (n : Nat) (y40_1 : Int32) (m40 : Mm), (f_Mo_matter_L78 N (fun (z8_1 : Int32) (m8 : Mm) => f_Mo_matter_L118 N (fun (z12_1 : Int32) (m12 : Mm) => f_Mo_matter_L144 N (fun (z16_1 : Int32) (m16 : Mm) => f_Mo_matter_L170 N (fun (z20_1 : Int32) (m20 : Mm) => f_Mo_matter_L199 N (fun (z23_1 : Int32) (m23 : Mm) => b3 (f_Mo_forgets N (vI (vI (vI m23 0 24 0) 0 25 ((-1))) 0 1 0)) fun m24 => some ((mI m24 0 16), m24)) N 0 m20) N 0 m16) N 0 m12) N 0 m8) n y40_1 m40) = some (r0, mf) → RN xs L al (Ev xs L al d) 169 78 [(0, .ref 0), (1, .int y40_1)] [] (m40, S) (some (.int r0)) (mf, S) := by
          intro n
          induction n with
          | zero => intro y40_1 m40 h; exact absurd h (by simp [f_Mo_matter_L78])
          | succ n78 ih78 =>
            intro y40_1 m40 h
            try dsimp only at h
            rw [f_Mo_matter_L78] at h
            try dsimp only at h
            refine rsn 2 (t := (80, [(0, .ref 0), (1, .int y40_1)], [.ref 0, .int y40_1])) rfl ?_
            refine pgI rfl rfl rfl (hSh.k 0 rfl _) ?_
            show RN xs L al (Ev xs L al d) 169 83 [(0, .ref 0), (1, .int y40_1)] [.int ((mI m40 0 16)), .int y40_1] (m40, S) (some (.int r0)) (mf, S)
            by_cases c41 : ((mI m40 0 16)) ≤ y40_1
            · rw [if_pos c41] at h
              refine rjt (a := (116, [(0, .ref 0), (1, .int y40_1)], [])) (b := (86, [(0, .ref 0), (1, .int y40_1)], [])) rfl rfl c41 ?_
              exact rsub [(0, .ref 0)] ⟨rfl, trivial⟩ ⟨rfl, trivial⟩ (ex78 y40_1 m40 h)
            · rw [if_neg c41] at h
              refine rjf (a := (116, [(0, .ref 0), (1, .int y40_1)], [])) (b := (86, [(0, .ref 0), (1, .int y40_1)], [])) rfl rfl c41 ?_
              refine rsn 1 (t := (87, [(0, .ref 0), (1, .int y40_1)], [.ref 0])) rfl ?_
              refine rgR rfl rfl rfl (hSh.k 0 rfl _) (hSh.r 2 rfl _) ?_
              refine rsn 1 (t := (91, [(0, .ref 0), (1, .int y40_1)], [.int y40_1, .ref 3])) rfl ?_
              obtain ⟨c42, h⟩ := ck_some h
              refine pxB rfl (Or.inr (hSh.k 3 rfl _)) (hSh.l 2 rfl _) c42 ?_
              show RN xs L al (Ev xs L al d) 169 92 [(0, .ref 0), (1, .int y40_1)] [.int ((mX m40 3 y40_1.toNatClampNeg))] (m40, S) (some (.int r0)) (mf, S)
              by_cases c43 : ((mX m40 3 y40_1.toNatClampNeg)) = 0
              · rw [if_pos c43] at h
                refine rjf (a := (110, [(0, .ref 0), (1, .int y40_1)], [])) (b := (95, [(0, .ref 0), (1, .int y40_1)], [])) rfl rfl (fun q => q c43) ?_
                refine rsn 2 (t := (97, [(0, .ref 0), (1, .int y40_1)], [.ref 0, .ref 0])) rfl ?_
                refine pgJ rfl rfl rfl (hSh.k 0 rfl _) ?_
                show RN xs L al (Ev xs L al d) 169 100 [(0, .ref 0), (1, .int y40_1)] [.long ((mJ m40 0 23)), .ref 0] (m40, S) (some (.int r0)) (mf, S)
                refine rsn 4 (t := (105, [(0, .ref 0), (1, .int y40_1)], [.int ((36 + y40_1)), .long 1, .long ((mJ m40 0 23)), .ref 0])) rfl ?_
                refine rsn 1 (t := (106, [(0, .ref 0), (1, .int y40_1)], [.long ((lsl 1 ((36 + y40_1)))), .long ((mJ m40 0 23)), .ref 0])) rfl ?_
                refine rsn 1 (t := (107, [(0, .ref 0), (1, .int y40_1)], [.long ((((mJ m40 0 23)) ||| ((lsl 1 ((36 + y40_1)))))), .ref 0])) rfl ?_
                refine ppJ rfl rfl rfl rfl (hSh.k 0 rfl _) ?_
                refine rsn 2 (t := (78, [(1, .int ((y40_1 + 1))), (0, .ref 0)], [])) rfl ?_
                exact rsub [(0, .ref 0), (1, .int ((y40_1 + 1)))] ⟨rfl, ⟨rfl, trivial⟩⟩ ⟨rfl, ⟨rfl, trivial⟩⟩ (ih78 ((y40_1 + 1)) ((vJ m40 0 23 ((((mJ m40 0 23)) ||| ((lsl 1 ((36 + y40_1)))))))) h)
              · rw [if_neg c43] at h
                refine rjt (a := (110, [(0, .ref 0), (1, .int y40_1)], [])) (b := (95, [(0, .ref 0), (1, .int y40_1)], [])) rfl rfl c43 ?_
                refine rsn 2 (t := (78, [(1, .int ((y40_1 + 1))), (0, .ref 0)], [])) rfl ?_
                exact rsub [(0, .ref 0), (1, .int ((y40_1 + 1)))] ⟨rfl, ⟨rfl, trivial⟩⟩ ⟨rfl, ⟨rfl, trivial⟩⟩ (ih78 ((y40_1 + 1)) m40 h)
        exact rsub [(0, .ref 0), (1, .int 0)] ⟨rfl, ⟨rfl, trivial⟩⟩ ⟨rfl, ⟨rfl, trivial⟩⟩ (lp78 N 0 (vJ (vI (vI (vI (vI (vI m1 0 15 1) 0 16 ((mI m1 0 6))) 0 18 ((mI m1 0 10))) 0 21 s3) 0 22 s4) 0 23 0) h)
      rw [jn] at h
      try dsimp only at h
      by_cases c44 : ((mI m1 0 14)) = ((-1))
      · rw [if_pos c44] at h
        refine rjf (a := (64, [(0, .ref 0)], [.ref 0])) (b := (60, [(0, .ref 0)], [.ref 0])) rfl rfl (fun q => q c44) ?_
        refine rsn 2 (t := (68, [(0, .ref 0)], [.int 0, .ref 0])) rfl ?_
        exact rsub [(0, .ref 0)] ⟨rfl, trivial⟩ ⟨rfl, trivial⟩ (jp68 0 h)
      · rw [if_neg c44] at h
        refine rjt (a := (64, [(0, .ref 0)], [.ref 0])) (b := (60, [(0, .ref 0)], [.ref 0])) rfl rfl c44 ?_
        refine rsn 1 (t := (65, [(0, .ref 0)], [.ref 0, .ref 0])) rfl ?_
        refine pgI rfl rfl rfl (hSh.k 0 rfl _) ?_
        show RN xs L al (Ev xs L al d) 169 68 [(0, .ref 0)] [.int ((mI m1 0 14)), .ref 0] ((vI (vI (vI (vI m1 0 15 1) 0 16 ((mI m1 0 6))) 0 18 ((mI m1 0 10))) 0 21 s3), S) (some (.int r0)) (mf, S)
        exact rsub [(0, .ref 0)] ⟨rfl, trivial⟩ ⟨rfl, trivial⟩ (jp68 ((mI m1 0 14)) h)
    rw [jn] at h
    try dsimp only at h
    by_cases c45 : ((mI m1 0 13)) = ((-1))
    · rw [if_pos c45] at h
      refine rjf (a := (44, [(0, .ref 0)], [.ref 0])) (b := (40, [(0, .ref 0)], [.ref 0])) rfl rfl (fun q => q c45) ?_
      refine rsn 2 (t := (48, [(0, .ref 0)], [.int 0, .ref 0])) rfl ?_
      exact rsub [(0, .ref 0)] ⟨rfl, trivial⟩ ⟨rfl, trivial⟩ (jp48 0 h)
    · rw [if_neg c45] at h
      refine rjt (a := (44, [(0, .ref 0)], [.ref 0])) (b := (40, [(0, .ref 0)], [.ref 0])) rfl rfl c45 ?_
      refine rsn 1 (t := (45, [(0, .ref 0)], [.ref 0, .ref 0])) rfl ?_
      refine pgI rfl rfl rfl (hSh.k 0 rfl _) ?_
      show RN xs L al (Ev xs L al d) 169 48 [(0, .ref 0)] [.int ((mI m1 0 13)), .ref 0] ((vI (vI (vI m1 0 15 1) 0 16 ((mI m1 0 6))) 0 18 ((mI m1 0 10))), S) (some (.int r0)) (mf, S)
      exact rsub [(0, .ref 0)] ⟨rfl, trivial⟩ ⟨rfl, trivial⟩ (jp48 ((mI m1 0 13)) h)
  · rw [if_neg c2] at h
    refine rjf (a := (10, [(0, .ref 0)], [])) (b := (8, [(0, .ref 0)], [])) rfl rfl c2 ?_
    refine rsn 1 (t := (9, [(0, .ref 0)], [.int ((-1))])) rfl ?_
    cases h
    exact rret rfl ⟨rfl, rfl, _, _, rfl, rfl, rfl, rfl⟩
def f_Mo_isHeir (N : Nat) (x1 : Int32) (m : Mm) : Option (Int32) := b1 (f_Mo_in N x1 0 ((((mI m 0 16)) - 1))) fun r1 => ck (r1 = 0 ∨ r1 = 1) (some r1)
set_option maxRecDepth 20000 in
set_option maxHeartbeats 4000000 in
theorem e_Mo_isHeir {xs : Nat → Int32} {L : Nat} {al : Bool} (N : Nat) {d : Nat} (hd : 2 ≤ d) {S : St} (hSh : ShR S) {x1 : Int32} {m : Mm} {r0 : Int32} (h : f_Mo_isHeir N x1 m = some r0) : Ev xs L al d 172 [.ref 0, .int x1] (m, S) (some (.int r0)) (m, S) := by
  obtain ⟨d, rfl⟩ : ∃ e, d = e + 1 := ⟨d - 1, by omega⟩
  refine ev_of (by decide) (Nat.le_of_ble_eq_true rfl) ?_
  rw [f_Mo_isHeir] at h
  show RN xs L al (Ev xs L al d) 172 0 [(0, .ref 0), (1, .int x1)] [] (m, S) (some (.int r0)) (m, S)
  refine rsn 3 (t := (3, [(0, .ref 0), (1, .int x1)], [.ref 0, .int 0, .int x1])) rfl ?_
  refine pgI rfl rfl rfl (hSh.k 0 rfl _) ?_
  show RN xs L al (Ev xs L al d) 172 6 [(0, .ref 0), (1, .int x1)] [.int ((mI m 0 16)), .int 0, .int x1] (m, S) (some (.int r0)) (m, S)
  refine rsn 2 (t := (8, [(0, .ref 0), (1, .int x1)], [.int ((((mI m 0 16)) - 1)), .int 0, .int x1])) rfl ?_
  obtain ⟨r1, g1, h⟩ := b1_some h
  refine rcS 146 [.int x1, .int 0, .int ((((mI m 0 16)) - 1))] rfl rfl rfl (Nat.le_of_ble_eq_true rfl) rfl (e_Mo_in N (by omega) g1) ?_
  show RN xs L al (Ev xs L al d) 172 11 [(0, .ref 0), (1, .int x1)] [.int r1] (m, S) (some (.int r0)) (m, S)
  obtain ⟨c2, h⟩ := ck_some h
  cases h
  exact rret rfl ⟨rfl, rfl, _, _, rfl, rfl, rfl, nz_of c2⟩
def f_Mo_worthTo_L6 (N : Nat) (x1 : Int64) (x3 : Int32) (x4 : Int32) (m : Mm) (k6 : Int32 → Int32 → Option (Int32)) : Nat → Int32 → Int32 → Option (Int32)
  | 0, _, _ => none
  | n6 + 1, x5, x6 => (if 3 ≤ x6 then k6 x5 x6 else ck (ix ((((3 * x3)) + x6)) 9) (b1 (f_Mo_things N x1 x4 x6) fun r3 => f_Mo_worthTo_L6 N x1 x3 x4 m k6 n6 ((x5 + ((((mX m 7 (((((3 * x3)) + x6)).toNatClampNeg))) * r3)))) ((x6 + 1))))
def f_Mo_worthTo (N : Nat) (x1 : Int64) (x3 : Int32) (x4 : Int32) (m : Mm) : Option (Int32) := f_Mo_worthTo_L6 N x1 x3 x4 m (fun (z4_5 : Int32) (z4_6 : Int32) => some z4_5) N 0 0
set_option maxRecDepth 20000 in
set_option maxHeartbeats 4000000 in
theorem e_Mo_worthTo {xs : Nat → Int32} {L : Nat} {al : Bool} (N : Nat) {d : Nat} (hd : 2 ≤ d) {S : St} (hSh : ShR S) {x1 : Int64} {x3 : Int32} {x4 : Int32} {m : Mm} {r0 : Int32} (h : f_Mo_worthTo N x1 x3 x4 m = some r0) : Ev xs L al d 175 [.ref 0, .long x1, .int x3, .int x4] (m, S) (some (.int r0)) (m, S) := by
  obtain ⟨d, rfl⟩ : ∃ e, d = e + 1 := ⟨d - 1, by omega⟩
  refine ev_of (by decide) (Nat.le_of_ble_eq_true rfl) ?_
  rw [f_Mo_worthTo] at h
  show RN xs L al (Ev xs L al d) 175 0 [(0, .ref 0), (1, .long x1), (3, .int x3), (4, .int x4)] [] (m, S) (some (.int r0)) (m, S)
  refine rsn 4 (t := (6, [(6, .int 0), (5, .int 0), (0, .ref 0), (1, .long x1), (3, .int x3), (4, .int x4)], [])) rfl ?_
  have ex6 : ∀ (z4_5 : Int32) (z4_6 : Int32), (some z4_5) = some r0 → RN xs L al (Ev xs L al d) 175 43 [(5, .int z4_5)] [] (m, S) (some (.int r0)) (m, S) := by
    intro z4_5 z4_6 h
    try dsimp only at h
    refine rsn 1 (t := (45, [(5, .int z4_5)], [.int z4_5])) rfl ?_
    cases h
    exact rret rfl ⟨rfl, rfl, _, _, rfl, rfl, rfl, rfl⟩
  have lp6 : ∀ (n : Nat) (y5_5 : Int32) (y5_6 : Int32), (f_Mo_worthTo_L6 N x1 x3 x4 m (fun (z4_5 : Int32) (z4_6 : Int32) => some z4_5) n y5_5 y5_6) = some r0 → RN xs L al (Ev xs L al d) 175 6 [(0, .ref 0), (1, .long x1), (3, .int x3), (4, .int x4), (5, .int y5_5), (6, .int y5_6)] [] (m, S) (some (.int r0)) (m, S) := by
    intro n
    induction n with
    | zero => intro y5_5 y5_6 h; exact absurd h (by simp [f_Mo_worthTo_L6])
    | succ n6 ih6 =>
      intro y5_5 y5_6 h
      try dsimp only at h
      rw [f_Mo_worthTo_L6] at h
      try dsimp only at h
      refine rsn 2 (t := (9, [(0, .ref 0), (1, .long x1), (3, .int x3), (4, .int x4), (5, .int y5_5), (6, .int y5_6)], [.int 3, .int y5_6])) rfl ?_
      by_cases c6 : 3 ≤ y5_6
      · rw [if_pos c6] at h
        refine rjt (a := (43, [(0, .ref 0), (1, .long x1), (3, .int x3), (4, .int x4), (5, .int y5_5), (6, .int y5_6)], [])) (b := (12, [(0, .ref 0), (1, .long x1), (3, .int x3), (4, .int x4), (5, .int y5_5), (6, .int y5_6)], [])) rfl rfl c6 ?_
        exact rsub [(5, .int y5_5)] ⟨rfl, trivial⟩ ⟨rfl, trivial⟩ (ex6 y5_5 y5_6 h)
      · rw [if_neg c6] at h
        refine rjf (a := (43, [(0, .ref 0), (1, .long x1), (3, .int x3), (4, .int x4), (5, .int y5_5), (6, .int y5_6)], [])) (b := (12, [(0, .ref 0), (1, .long x1), (3, .int x3), (4, .int x4), (5, .int y5_5), (6, .int y5_6)], [])) rfl rfl c6 ?_
        refine rsn 2 (t := (15, [(0, .ref 0), (1, .long x1), (3, .int x3), (4, .int x4), (5, .int y5_5), (6, .int y5_6)], [.ref 0, .int y5_5])) rfl ?_
        refine rgR rfl rfl rfl (hSh.k 0 rfl _) (hSh.r 6 rfl _) ?_
        refine rsn 5 (t := (24, [(0, .ref 0), (1, .long x1), (3, .int x3), (4, .int x4), (5, .int y5_5), (6, .int y5_6)], [.int ((((3 * x3)) + y5_6)), .ref 7, .int y5_5])) rfl ?_
        obtain ⟨c7, h⟩ := ck_some h
        refine pxI rfl (hSh.k 7 rfl _) (hSh.l 6 rfl _) c7 ?_
        show RN xs L al (Ev xs L al d) 175 25 [(0, .ref 0), (1, .long x1), (3, .int x3), (4, .int x4), (5, .int y5_5), (6, .int y5_6)] [.int ((mX m 7 (((((3 * x3)) + y5_6)).toNatClampNeg))), .int y5_5] (m, S) (some (.int r0)) (m, S)
        refine rsn 3 (t := (30, [(0, .ref 0), (1, .long x1), (3, .int x3), (4, .int x4), (5, .int y5_5), (6, .int y5_6)], [.int y5_6, .int x4, .long x1, .int ((mX m 7 (((((3 * x3)) + y5_6)).toNatClampNeg))), .int y5_5])) rfl ?_
        obtain ⟨r8, g8, h⟩ := b1_some h
        refine rcS 174 [.long x1, .int x4, .int y5_6] rfl rfl rfl (Nat.le_of_ble_eq_true rfl) rfl (e_Mo_things N (by omega) g8) ?_
        show RN xs L al (Ev xs L al d) 175 33 [(0, .ref 0), (1, .long x1), (3, .int x3), (4, .int x4), (5, .int y5_5), (6, .int y5_6)] [.int r8, .int ((mX m 7 (((((3 * x3)) + y5_6)).toNatClampNeg))), .int y5_5] (m, S) (some (.int r0)) (m, S)
        refine rsn 5 (t := (6, [(6, .int ((y5_6 + 1))), (5, .int ((y5_5 + ((((mX m 7 (((((3 * x3)) + y5_6)).toNatClampNeg))) * r8))))), (0, .ref 0), (1, .long x1), (3, .int x3), (4, .int x4)], [])) rfl ?_
        exact rsub [(0, .ref 0), (1, .long x1), (3, .int x3), (4, .int x4), (5, .int ((y5_5 + ((((mX m 7 (((((3 * x3)) + y5_6)).toNatClampNeg))) * r8))))), (6, .int ((y5_6 + 1)))] ⟨rfl, ⟨rfl, ⟨rfl, ⟨rfl, ⟨rfl, ⟨rfl, trivial⟩⟩⟩⟩⟩⟩ ⟨rfl, ⟨rfl, ⟨rfl, ⟨rfl, ⟨rfl, ⟨rfl, trivial⟩⟩⟩⟩⟩⟩ (ih6 ((y5_5 + ((((mX m 7 (((((3 * x3)) + y5_6)).toNatClampNeg))) * r8)))) ((y5_6 + 1)) h)
  exact rsub [(0, .ref 0), (1, .long x1), (3, .int x3), (4, .int x4), (5, .int 0), (6, .int 0)] ⟨rfl, ⟨rfl, ⟨rfl, ⟨rfl, ⟨rfl, ⟨rfl, trivial⟩⟩⟩⟩⟩⟩ ⟨rfl, ⟨rfl, ⟨rfl, ⟨rfl, ⟨rfl, ⟨rfl, trivial⟩⟩⟩⟩⟩⟩ (lp6 N 0 0 h)
def f_Mo_heir (N : Nat) (x1 : Int32) (x2 : Int32) (m : Mm) : Option (Int32) := b1 (f_Mo_isHeir N x1 m) fun r1 => (if r1 = 0 then some ((-1)) else (if x2 = 0 then b1 (f_Mo_hasCome N ((mJ m 0 23)) x1) fun r12 => (if r12 = 0 then some 0 else some 1) else b1 (f_Mo_in N x2 1 3) fun r4 => (if r4 = 0 then b1 (f_Mo_in N x2 4 6) fun r6 => (if r6 = 0 then (if x2 = 7 then b1 (f_Mo_worthTo N ((mJ m 0 23)) x1 x1 m) fun r9 => some r9 else some ((-1))) else b1 (f_Mo_things N ((mJ m 0 23)) x1 ((x2 - 4))) fun r10 => some r10) else ck (ix ((((((3 * x1)) + x2)) - 1)) 9) (some ((mX m 7 (((((((3 * x1)) + x2)) - 1)).toNatClampNeg)))))))
set_option maxRecDepth 20000 in
set_option maxHeartbeats 4000000 in
theorem e_Mo_heir {xs : Nat → Int32} {L : Nat} {al : Bool} (N : Nat) {d : Nat} (hd : 3 ≤ d) {S : St} (hSh : ShR S) {x1 : Int32} {x2 : Int32} {m : Mm} {r0 : Int32} (h : f_Mo_heir N x1 x2 m = some r0) : Ev xs L al d 171 [.ref 0, .int x1, .int x2] (m, S) (some (.int r0)) (m, S) := by
  obtain ⟨d, rfl⟩ : ∃ e, d = e + 1 := ⟨d - 1, by omega⟩
  refine ev_of (by decide) (Nat.le_of_ble_eq_true rfl) ?_
  rw [f_Mo_heir] at h
  show RN xs L al (Ev xs L al d) 171 0 [(0, .ref 0), (1, .int x1), (2, .int x2)] [] (m, S) (some (.int r0)) (m, S)
  refine rsn 2 (t := (2, [(0, .ref 0), (1, .int x1), (2, .int x2)], [.int x1, .ref 0])) rfl ?_
  obtain ⟨r1, g1, h⟩ := b1_some h
  refine rcV 172 0 [.int x1] rfl rfl rfl (hSh.k 0 rfl _) (Nat.le_of_ble_eq_true rfl) rfl (e_Mo_isHeir N (by omega) hSh g1) ?_
  show RN xs L al (Ev xs L al d) 171 5 [(0, .ref 0), (1, .int x1), (2, .int x2)] [.int r1] (m, S) (some (.int r0)) (m, S)
  by_cases c2 : r1 = 0
  · rw [if_pos c2] at h
    refine rjf (a := (10, [(0, .ref 0), (1, .int x1), (2, .int x2)], [])) (b := (8, [(0, .ref 0), (1, .int x1), (2, .int x2)], [])) rfl rfl (fun q => q c2) ?_
    refine rsn 1 (t := (9, [(0, .ref 0), (1, .int x1), (2, .int x2)], [.int ((-1))])) rfl ?_
    cases h
    exact rret rfl ⟨rfl, rfl, _, _, rfl, rfl, rfl, rfl⟩
  · rw [if_neg c2] at h
    refine rjt (a := (10, [(0, .ref 0), (1, .int x1), (2, .int x2)], [])) (b := (8, [(0, .ref 0), (1, .int x1), (2, .int x2)], [])) rfl rfl c2 ?_
    refine rsn 1 (t := (11, [(0, .ref 0), (1, .int x1), (2, .int x2)], [.int x2])) rfl ?_
    by_cases c3 : x2 = 0
    · rw [if_pos c3] at h
      refine rjf (a := (31, [(0, .ref 0), (1, .int x1), (2, .int x2)], [])) (b := (14, [(0, .ref 0), (1, .int x1), (2, .int x2)], [])) rfl rfl (fun q => q c3) ?_
      refine rsn 1 (t := (15, [(0, .ref 0), (1, .int x1), (2, .int x2)], [.ref 0])) rfl ?_
      refine pgJ rfl rfl rfl (hSh.k 0 rfl _) ?_
      show RN xs L al (Ev xs L al d) 171 18 [(0, .ref 0), (1, .int x1), (2, .int x2)] [.long ((mJ m 0 23))] (m, S) (some (.int r0)) (m, S)
      refine rsn 1 (t := (19, [(0, .ref 0), (1, .int x1), (2, .int x2)], [.int x1, .long ((mJ m 0 23))])) rfl ?_
      obtain ⟨r12, g12, h⟩ := b1_some h
      refine rcS 173 [.long ((mJ m 0 23)), .int x1] rfl rfl rfl (Nat.le_of_ble_eq_true rfl) rfl (e_Mo_hasCome N (by omega) g12) ?_
      show RN xs L al (Ev xs L al d) 171 22 [(0, .ref 0), (1, .int x1), (2, .int x2)] [.int r12] (m, S) (some (.int r0)) (m, S)
      by_cases c13 : r12 = 0
      · rw [if_pos c13] at h
        refine rjt (a := (29, [(0, .ref 0), (1, .int x1), (2, .int x2)], [])) (b := (25, [(0, .ref 0), (1, .int x1), (2, .int x2)], [])) rfl rfl c13 ?_
        refine rsn 1 (t := (30, [(0, .ref 0), (1, .int x1), (2, .int x2)], [.int 0])) rfl ?_
        cases h
        exact rret rfl ⟨rfl, rfl, _, _, rfl, rfl, rfl, rfl⟩
      · rw [if_neg c13] at h
        refine rjf (a := (29, [(0, .ref 0), (1, .int x1), (2, .int x2)], [])) (b := (25, [(0, .ref 0), (1, .int x1), (2, .int x2)], [])) rfl rfl c13 ?_
        refine rsn 2 (t := (30, [(0, .ref 0), (1, .int x1), (2, .int x2)], [.int 1])) rfl ?_
        cases h
        exact rret rfl ⟨rfl, rfl, _, _, rfl, rfl, rfl, rfl⟩
    · rw [if_neg c3] at h
      refine rjt (a := (31, [(0, .ref 0), (1, .int x1), (2, .int x2)], [])) (b := (14, [(0, .ref 0), (1, .int x1), (2, .int x2)], [])) rfl rfl c3 ?_
      refine rsn 3 (t := (34, [(0, .ref 0), (1, .int x1), (2, .int x2)], [.int 3, .int 1, .int x2])) rfl ?_
      obtain ⟨r4, g4, h⟩ := b1_some h
      refine rcS 146 [.int x2, .int 1, .int 3] rfl rfl rfl (Nat.le_of_ble_eq_true rfl) rfl (e_Mo_in N (by omega) g4) ?_
      show RN xs L al (Ev xs L al d) 171 37 [(0, .ref 0), (1, .int x1), (2, .int x2)] [.int r4] (m, S) (some (.int r0)) (m, S)
      by_cases c5 : r4 = 0
      · rw [if_pos c5] at h
        refine rjt (a := (53, [(0, .ref 0), (1, .int x1), (2, .int x2)], [])) (b := (40, [(0, .ref 0), (1, .int x1), (2, .int x2)], [])) rfl rfl c5 ?_
        refine rsn 3 (t := (57, [(0, .ref 0), (1, .int x1), (2, .int x2)], [.int 6, .int 4, .int x2])) rfl ?_
        obtain ⟨r6, g6, h⟩ := b1_some h
        refine rcS 146 [.int x2, .int 4, .int 6] rfl rfl rfl (Nat.le_of_ble_eq_true rfl) rfl (e_Mo_in N (by omega) g6) ?_
        show RN xs L al (Ev xs L al d) 171 60 [(0, .ref 0), (1, .int x1), (2, .int x2)] [.int r6] (m, S) (some (.int r0)) (m, S)
        by_cases c7 : r6 = 0
        · rw [if_pos c7] at h
          refine rjt (a := (77, [(0, .ref 0), (1, .int x1), (2, .int x2)], [])) (b := (63, [(0, .ref 0), (1, .int x1), (2, .int x2)], [])) rfl rfl c7 ?_
          refine rsn 2 (t := (80, [(0, .ref 0), (1, .int x1), (2, .int x2)], [.int 7, .int x2])) rfl ?_
          by_cases c8 : x2 = 7
          · rw [if_pos c8] at h
            refine rjf (a := (96, [(0, .ref 0), (1, .int x1), (2, .int x2)], [])) (b := (83, [(0, .ref 0), (1, .int x1), (2, .int x2)], [])) rfl rfl (fun q => q c8) ?_
            refine rsn 2 (t := (85, [(0, .ref 0), (1, .int x1), (2, .int x2)], [.ref 0, .ref 0])) rfl ?_
            refine pgJ rfl rfl rfl (hSh.k 0 rfl _) ?_
            show RN xs L al (Ev xs L al d) 171 88 [(0, .ref 0), (1, .int x1), (2, .int x2)] [.long ((mJ m 0 23)), .ref 0] (m, S) (some (.int r0)) (m, S)
            refine rsn 2 (t := (90, [(0, .ref 0), (1, .int x1), (2, .int x2)], [.int x1, .int x1, .long ((mJ m 0 23)), .ref 0])) rfl ?_
            obtain ⟨r9, g9, h⟩ := b1_some h
            refine rcV 175 0 [.long ((mJ m 0 23)), .int x1, .int x1] rfl rfl rfl (hSh.k 0 rfl _) (Nat.le_of_ble_eq_true rfl) rfl (e_Mo_worthTo N (by omega) hSh g9) ?_
            show RN xs L al (Ev xs L al d) 171 93 [(0, .ref 0), (1, .int x1), (2, .int x2)] [.int r9] (m, S) (some (.int r0)) (m, S)
            refine rsn 1 (t := (97, [(0, .ref 0), (1, .int x1), (2, .int x2)], [.int r9])) rfl ?_
            cases h
            exact rret rfl ⟨rfl, rfl, _, _, rfl, rfl, rfl, rfl⟩
          · rw [if_neg c8] at h
            refine rjt (a := (96, [(0, .ref 0), (1, .int x1), (2, .int x2)], [])) (b := (83, [(0, .ref 0), (1, .int x1), (2, .int x2)], [])) rfl rfl c8 ?_
            refine rsn 1 (t := (97, [(0, .ref 0), (1, .int x1), (2, .int x2)], [.int ((-1))])) rfl ?_
            cases h
            exact rret rfl ⟨rfl, rfl, _, _, rfl, rfl, rfl, rfl⟩
        · rw [if_neg c7] at h
          refine rjf (a := (77, [(0, .ref 0), (1, .int x1), (2, .int x2)], [])) (b := (63, [(0, .ref 0), (1, .int x1), (2, .int x2)], [])) rfl rfl c7 ?_
          refine rsn 1 (t := (64, [(0, .ref 0), (1, .int x1), (2, .int x2)], [.ref 0])) rfl ?_
          refine pgJ rfl rfl rfl (hSh.k 0 rfl _) ?_
          show RN xs L al (Ev xs L al d) 171 67 [(0, .ref 0), (1, .int x1), (2, .int x2)] [.long ((mJ m 0 23))] (m, S) (some (.int r0)) (m, S)
          refine rsn 4 (t := (71, [(0, .ref 0), (1, .int x1), (2, .int x2)], [.int ((x2 - 4)), .int x1, .long ((mJ m 0 23))])) rfl ?_
          obtain ⟨r10, g10, h⟩ := b1_some h
          refine rcS 174 [.long ((mJ m 0 23)), .int x1, .int ((x2 - 4))] rfl rfl rfl (Nat.le_of_ble_eq_true rfl) rfl (e_Mo_things N (by omega) g10) ?_
          show RN xs L al (Ev xs L al d) 171 74 [(0, .ref 0), (1, .int x1), (2, .int x2)] [.int r10] (m, S) (some (.int r0)) (m, S)
          refine rsn 1 (t := (97, [(0, .ref 0), (1, .int x1), (2, .int x2)], [.int r10])) rfl ?_
          cases h
          exact rret rfl ⟨rfl, rfl, _, _, rfl, rfl, rfl, rfl⟩
      · rw [if_neg c5] at h
        refine rjf (a := (53, [(0, .ref 0), (1, .int x1), (2, .int x2)], [])) (b := (40, [(0, .ref 0), (1, .int x1), (2, .int x2)], [])) rfl rfl c5 ?_
        refine rsn 1 (t := (41, [(0, .ref 0), (1, .int x1), (2, .int x2)], [.ref 0])) rfl ?_
        refine rgR rfl rfl rfl (hSh.k 0 rfl _) (hSh.r 6 rfl _) ?_
        refine rsn 7 (t := (51, [(0, .ref 0), (1, .int x1), (2, .int x2)], [.int ((((((3 * x1)) + x2)) - 1)), .ref 7])) rfl ?_
        obtain ⟨c11, h⟩ := ck_some h
        refine pxI rfl (hSh.k 7 rfl _) (hSh.l 6 rfl _) c11 ?_
        show RN xs L al (Ev xs L al d) 171 52 [(0, .ref 0), (1, .int x1), (2, .int x2)] [.int ((mX m 7 (((((((3 * x1)) + x2)) - 1)).toNatClampNeg)))] (m, S) (some (.int r0)) (m, S)
        cases h
        exact rret rfl ⟨rfl, rfl, _, _, rfl, rfl, rfl, rfl⟩
def f_Mo_altOf (N : Nat) (x1 : Int32) (x2 : Int32) (x3 : Int32) (m : Mm) : Option (Int32) := ck (ix ((((3 * ((((3 * x1)) + x2)))) + x3)) 54) (some ((mX m 9 (((((3 * ((((3 * x1)) + x2)))) + x3)).toNatClampNeg))))
set_option maxRecDepth 20000 in
set_option maxHeartbeats 4000000 in
theorem e_Mo_altOf {xs : Nat → Int32} {L : Nat} {al : Bool} (N : Nat) {d : Nat} (hd : 1 ≤ d) {S : St} (hSh : ShR S) {x1 : Int32} {x2 : Int32} {x3 : Int32} {m : Mm} {r0 : Int32} (h : f_Mo_altOf N x1 x2 x3 m = some r0) : Ev xs L al d 177 [.ref 0, .int x1, .int x2, .int x3] (m, S) (some (.int r0)) (m, S) := by
  obtain ⟨d, rfl⟩ : ∃ e, d = e + 1 := ⟨d - 1, by omega⟩
  refine ev_of (by decide) (Nat.le_of_ble_eq_true rfl) ?_
  rw [f_Mo_altOf] at h
  show RN xs L al (Ev xs L al d) 177 0 [(0, .ref 0), (1, .int x1), (2, .int x2), (3, .int x3)] [] (m, S) (some (.int r0)) (m, S)
  refine rsn 1 (t := (1, [(0, .ref 0), (1, .int x1), (2, .int x2), (3, .int x3)], [.ref 0])) rfl ?_
  refine rgR rfl rfl rfl (hSh.k 0 rfl _) (hSh.r 8 rfl _) ?_
  refine rsn 9 (t := (13, [(0, .ref 0), (1, .int x1), (2, .int x2), (3, .int x3)], [.int ((((3 * ((((3 * x1)) + x2)))) + x3)), .ref 9])) rfl ?_
  obtain ⟨c1, h⟩ := ck_some h
  refine pxI rfl (hSh.k 9 rfl _) (hSh.l 8 rfl _) c1 ?_
  show RN xs L al (Ev xs L al d) 177 14 [(0, .ref 0), (1, .int x1), (2, .int x2), (3, .int x3)] [.int ((mX m 9 (((((3 * ((((3 * x1)) + x2)))) + x3)).toNatClampNeg)))] (m, S) (some (.int r0)) (m, S)
  cases h
  exact rret rfl ⟨rfl, rfl, _, _, rfl, rfl, rfl, rfl⟩
def f_Mo_alt (N : Nat) (x1 : Int32) (x2 : Int32) (x3 : Int32) (m : Mm) : Option (Int32) := (if ((mI m 0 15)) = 0 then some ((-1)) else b1 (f_Mo_in N x1 0 ((((mI m 0 18)) - 1))) fun r2 => (if r2 = 0 then some ((-1)) else ck (ix x1 6) (b1 (f_Mo_in N x2 0 ((((mX m 8 x1.toNatClampNeg)) - 1))) fun r5 => (if r5 = 0 then some ((-1)) else b1 (f_Mo_in N x3 0 2) fun r7 => (if r7 = 0 then some ((-1)) else b1 (f_Mo_altOf N x1 x2 x3 m) fun r9 => some r9)))))
set_option maxRecDepth 20000 in
set_option maxHeartbeats 4000000 in
theorem e_Mo_alt {xs : Nat → Int32} {L : Nat} {al : Bool} (N : Nat) {d : Nat} (hd : 2 ≤ d) {S : St} (hSh : ShR S) {x1 : Int32} {x2 : Int32} {x3 : Int32} {m : Mm} {r0 : Int32} (h : f_Mo_alt N x1 x2 x3 m = some r0) : Ev xs L al d 176 [.ref 0, .int x1, .int x2, .int x3] (m, S) (some (.int r0)) (m, S) := by
  obtain ⟨d, rfl⟩ : ∃ e, d = e + 1 := ⟨d - 1, by omega⟩
  refine ev_of (by decide) (Nat.le_of_ble_eq_true rfl) ?_
  rw [f_Mo_alt] at h
  show RN xs L al (Ev xs L al d) 176 0 [(0, .ref 0), (1, .int x1), (2, .int x2), (3, .int x3)] [] (m, S) (some (.int r0)) (m, S)
  refine rsn 1 (t := (1, [(0, .ref 0), (1, .int x1), (2, .int x2), (3, .int x3)], [.ref 0])) rfl ?_
  refine pgI rfl rfl rfl (hSh.k 0 rfl _) ?_
  show RN xs L al (Ev xs L al d) 176 4 [(0, .ref 0), (1, .int x1), (2, .int x2), (3, .int x3)] [.int ((mI m 0 15))] (m, S) (some (.int r0)) (m, S)
  by_cases c1 : ((mI m 0 15)) = 0
  · rw [if_pos c1] at h
    refine rjt (a := (56, [(0, .ref 0), (1, .int x1), (2, .int x2), (3, .int x3)], [])) (b := (7, [(0, .ref 0), (1, .int x1), (2, .int x2), (3, .int x3)], [])) rfl rfl c1 ?_
    refine rsn 1 (t := (57, [(0, .ref 0), (1, .int x1), (2, .int x2), (3, .int x3)], [.int ((-1))])) rfl ?_
    cases h
    exact rret rfl ⟨rfl, rfl, _, _, rfl, rfl, rfl, rfl⟩
  · rw [if_neg c1] at h
    refine rjf (a := (56, [(0, .ref 0), (1, .int x1), (2, .int x2), (3, .int x3)], [])) (b := (7, [(0, .ref 0), (1, .int x1), (2, .int x2), (3, .int x3)], [])) rfl rfl c1 ?_
    refine rsn 3 (t := (10, [(0, .ref 0), (1, .int x1), (2, .int x2), (3, .int x3)], [.ref 0, .int 0, .int x1])) rfl ?_
    refine pgI rfl rfl rfl (hSh.k 0 rfl _) ?_
    show RN xs L al (Ev xs L al d) 176 13 [(0, .ref 0), (1, .int x1), (2, .int x2), (3, .int x3)] [.int ((mI m 0 18)), .int 0, .int x1] (m, S) (some (.int r0)) (m, S)
    refine rsn 2 (t := (15, [(0, .ref 0), (1, .int x1), (2, .int x2), (3, .int x3)], [.int ((((mI m 0 18)) - 1)), .int 0, .int x1])) rfl ?_
    obtain ⟨r2, g2, h⟩ := b1_some h
    refine rcS 146 [.int x1, .int 0, .int ((((mI m 0 18)) - 1))] rfl rfl rfl (Nat.le_of_ble_eq_true rfl) rfl (e_Mo_in N (by omega) g2) ?_
    show RN xs L al (Ev xs L al d) 176 18 [(0, .ref 0), (1, .int x1), (2, .int x2), (3, .int x3)] [.int r2] (m, S) (some (.int r0)) (m, S)
    by_cases c3 : r2 = 0
    · rw [if_pos c3] at h
      refine rjt (a := (56, [(0, .ref 0), (1, .int x1), (2, .int x2), (3, .int x3)], [])) (b := (21, [(0, .ref 0), (1, .int x1), (2, .int x2), (3, .int x3)], [])) rfl rfl c3 ?_
      refine rsn 1 (t := (57, [(0, .ref 0), (1, .int x1), (2, .int x2), (3, .int x3)], [.int ((-1))])) rfl ?_
      cases h
      exact rret rfl ⟨rfl, rfl, _, _, rfl, rfl, rfl, rfl⟩
    · rw [if_neg c3] at h
      refine rjf (a := (56, [(0, .ref 0), (1, .int x1), (2, .int x2), (3, .int x3)], [])) (b := (21, [(0, .ref 0), (1, .int x1), (2, .int x2), (3, .int x3)], [])) rfl rfl c3 ?_
      refine rsn 3 (t := (24, [(0, .ref 0), (1, .int x1), (2, .int x2), (3, .int x3)], [.ref 0, .int 0, .int x2])) rfl ?_
      refine rgR rfl rfl rfl (hSh.k 0 rfl _) (hSh.r 7 rfl _) ?_
      refine rsn 1 (t := (28, [(0, .ref 0), (1, .int x1), (2, .int x2), (3, .int x3)], [.int x1, .ref 8, .int 0, .int x2])) rfl ?_
      obtain ⟨c4, h⟩ := ck_some h
      refine pxI rfl (hSh.k 8 rfl _) (hSh.l 7 rfl _) c4 ?_
      show RN xs L al (Ev xs L al d) 176 29 [(0, .ref 0), (1, .int x1), (2, .int x2), (3, .int x3)] [.int ((mX m 8 x1.toNatClampNeg)), .int 0, .int x2] (m, S) (some (.int r0)) (m, S)
      refine rsn 2 (t := (31, [(0, .ref 0), (1, .int x1), (2, .int x2), (3, .int x3)], [.int ((((mX m 8 x1.toNatClampNeg)) - 1)), .int 0, .int x2])) rfl ?_
      obtain ⟨r5, g5, h⟩ := b1_some h
      refine rcS 146 [.int x2, .int 0, .int ((((mX m 8 x1.toNatClampNeg)) - 1))] rfl rfl rfl (Nat.le_of_ble_eq_true rfl) rfl (e_Mo_in N (by omega) g5) ?_
      show RN xs L al (Ev xs L al d) 176 34 [(0, .ref 0), (1, .int x1), (2, .int x2), (3, .int x3)] [.int r5] (m, S) (some (.int r0)) (m, S)
      by_cases c6 : r5 = 0
      · rw [if_pos c6] at h
        refine rjt (a := (56, [(0, .ref 0), (1, .int x1), (2, .int x2), (3, .int x3)], [])) (b := (37, [(0, .ref 0), (1, .int x1), (2, .int x2), (3, .int x3)], [])) rfl rfl c6 ?_
        refine rsn 1 (t := (57, [(0, .ref 0), (1, .int x1), (2, .int x2), (3, .int x3)], [.int ((-1))])) rfl ?_
        cases h
        exact rret rfl ⟨rfl, rfl, _, _, rfl, rfl, rfl, rfl⟩
      · rw [if_neg c6] at h
        refine rjf (a := (56, [(0, .ref 0), (1, .int x1), (2, .int x2), (3, .int x3)], [])) (b := (37, [(0, .ref 0), (1, .int x1), (2, .int x2), (3, .int x3)], [])) rfl rfl c6 ?_
        refine rsn 3 (t := (40, [(0, .ref 0), (1, .int x1), (2, .int x2), (3, .int x3)], [.int 2, .int 0, .int x3])) rfl ?_
        obtain ⟨r7, g7, h⟩ := b1_some h
        refine rcS 146 [.int x3, .int 0, .int 2] rfl rfl rfl (Nat.le_of_ble_eq_true rfl) rfl (e_Mo_in N (by omega) g7) ?_
        show RN xs L al (Ev xs L al d) 176 43 [(0, .ref 0), (1, .int x1), (2, .int x2), (3, .int x3)] [.int r7] (m, S) (some (.int r0)) (m, S)
        by_cases c8 : r7 = 0
        · rw [if_pos c8] at h
          refine rjt (a := (56, [(0, .ref 0), (1, .int x1), (2, .int x2), (3, .int x3)], [])) (b := (46, [(0, .ref 0), (1, .int x1), (2, .int x2), (3, .int x3)], [])) rfl rfl c8 ?_
          refine rsn 1 (t := (57, [(0, .ref 0), (1, .int x1), (2, .int x2), (3, .int x3)], [.int ((-1))])) rfl ?_
          cases h
          exact rret rfl ⟨rfl, rfl, _, _, rfl, rfl, rfl, rfl⟩
        · rw [if_neg c8] at h
          refine rjf (a := (56, [(0, .ref 0), (1, .int x1), (2, .int x2), (3, .int x3)], [])) (b := (46, [(0, .ref 0), (1, .int x1), (2, .int x2), (3, .int x3)], [])) rfl rfl c8 ?_
          refine rsn 4 (t := (50, [(0, .ref 0), (1, .int x1), (2, .int x2), (3, .int x3)], [.int x3, .int x2, .int x1, .ref 0])) rfl ?_
          obtain ⟨r9, g9, h⟩ := b1_some h
          refine rcV 177 0 [.int x1, .int x2, .int x3] rfl rfl rfl (hSh.k 0 rfl _) (Nat.le_of_ble_eq_true rfl) rfl (e_Mo_altOf N (by omega) hSh g9) ?_
          show RN xs L al (Ev xs L al d) 176 53 [(0, .ref 0), (1, .int x1), (2, .int x2), (3, .int x3)] [.int r9] (m, S) (some (.int r0)) (m, S)
          refine rsn 1 (t := (57, [(0, .ref 0), (1, .int x1), (2, .int x2), (3, .int x3)], [.int r9])) rfl ?_
          cases h
          exact rret rfl ⟨rfl, rfl, _, _, rfl, rfl, rfl, rfl⟩
def f_Mo_come (N : Nat) (x1 : Int32) (m : Mm) : Option (Int32 × Mm) := (if ((mI m 0 15)) = 0 then some ((-1), m) else (if ((mI m 0 25)) = ((-1)) then (if ((mI m 0 24)) = ((mI m 0 18)) then some ((-1), m) else ck (ix ((mI m 0 24)) 6) (b1 (f_Mo_in N x1 0 ((((mX m 8 (((mI m 0 24)).toNatClampNeg))) - 1))) fun r5 => (if r5 = 0 then some ((-1), m) else b1 (f_Mo_altOf N ((mI m 0 24)) x1 1 m) fun r7 => (jn (fun (m8 : Mm) => (jn (fun (m9 : Mm) => some ((((mI m9 0 24)) + 1), (vI m9 0 24 ((((mI m9 0 24)) + 1))))) (fun j105 => if r7 = 1 then b1 (f_Mo_altOf N ((mI m8 0 24)) x1 2 m8) fun r11 => j105 ((vJ m8 0 23 ((((mJ m8 0 23)) ||| ((lsl 1 ((36 + r11)))))))) else j105 m8))) (fun j76 => if r7 = 0 then b1 (f_Mo_altOf N ((mI m 0 24)) x1 2 m) fun r13 => j76 ((vI m 0 25 r13)) else j76 m))))) else some ((-1), m)))
set_option maxRecDepth 20000 in
set_option maxHeartbeats 4000000 in
theorem e_Mo_come {xs : Nat → Int32} {L : Nat} {al : Bool} (N : Nat) {d : Nat} (hd : 2 ≤ d) {S : St} (hSh : ShR S) {x1 : Int32} {m : Mm} {r0 : Int32} {mf : Mm} (h : f_Mo_come N x1 m = some (r0, mf)) : Ev xs L al d 178 [.ref 0, .int x1] (m, S) (some (.int r0)) (mf, S) := by
  obtain ⟨d, rfl⟩ : ∃ e, d = e + 1 := ⟨d - 1, by omega⟩
  refine ev_of (by decide) (Nat.le_of_ble_eq_true rfl) ?_
  rw [f_Mo_come] at h
  show RN xs L al (Ev xs L al d) 178 0 [(0, .ref 0), (1, .int x1)] [] (m, S) (some (.int r0)) (mf, S)
  refine rsn 1 (t := (1, [(0, .ref 0), (1, .int x1)], [.ref 0])) rfl ?_
  refine pgI rfl rfl rfl (hSh.k 0 rfl _) ?_
  show RN xs L al (Ev xs L al d) 178 4 [(0, .ref 0), (1, .int x1)] [.int ((mI m 0 15))] (m, S) (some (.int r0)) (mf, S)
  by_cases c1 : ((mI m 0 15)) = 0
  · rw [if_pos c1] at h
    refine rjt (a := (45, [(0, .ref 0), (1, .int x1)], [])) (b := (7, [(0, .ref 0), (1, .int x1)], [])) rfl rfl c1 ?_
    refine rsn 1 (t := (46, [(0, .ref 0), (1, .int x1)], [.int ((-1))])) rfl ?_
    cases h
    exact rret rfl ⟨rfl, rfl, _, _, rfl, rfl, rfl, rfl⟩
  · rw [if_neg c1] at h
    refine rjf (a := (45, [(0, .ref 0), (1, .int x1)], [])) (b := (7, [(0, .ref 0), (1, .int x1)], [])) rfl rfl c1 ?_
    refine rsn 1 (t := (8, [(0, .ref 0), (1, .int x1)], [.ref 0])) rfl ?_
    refine pgI rfl rfl rfl (hSh.k 0 rfl _) ?_
    show RN xs L al (Ev xs L al d) 178 11 [(0, .ref 0), (1, .int x1)] [.int ((mI m 0 25))] (m, S) (some (.int r0)) (mf, S)
    refine rsn 1 (t := (12, [(0, .ref 0), (1, .int x1)], [.int ((-1)), .int ((mI m 0 25))])) rfl ?_
    by_cases c2 : ((mI m 0 25)) = ((-1))
    · rw [if_pos c2] at h
      refine rjf (a := (45, [(0, .ref 0), (1, .int x1)], [])) (b := (15, [(0, .ref 0), (1, .int x1)], [])) rfl rfl (fun q => q c2) ?_
      refine rsn 1 (t := (16, [(0, .ref 0), (1, .int x1)], [.ref 0])) rfl ?_
      refine pgI rfl rfl rfl (hSh.k 0 rfl _) ?_
      show RN xs L al (Ev xs L al d) 178 19 [(0, .ref 0), (1, .int x1)] [.int ((mI m 0 24))] (m, S) (some (.int r0)) (mf, S)
      refine rsn 1 (t := (20, [(0, .ref 0), (1, .int x1)], [.ref 0, .int ((mI m 0 24))])) rfl ?_
      refine pgI rfl rfl rfl (hSh.k 0 rfl _) ?_
      show RN xs L al (Ev xs L al d) 178 23 [(0, .ref 0), (1, .int x1)] [.int ((mI m 0 18)), .int ((mI m 0 24))] (m, S) (some (.int r0)) (mf, S)
      by_cases c3 : ((mI m 0 24)) = ((mI m 0 18))
      · rw [if_pos c3] at h
        refine rjt (a := (45, [(0, .ref 0), (1, .int x1)], [])) (b := (26, [(0, .ref 0), (1, .int x1)], [])) rfl rfl c3 ?_
        refine rsn 1 (t := (46, [(0, .ref 0), (1, .int x1)], [.int ((-1))])) rfl ?_
        cases h
        exact rret rfl ⟨rfl, rfl, _, _, rfl, rfl, rfl, rfl⟩
      · rw [if_neg c3] at h
        refine rjf (a := (45, [(0, .ref 0), (1, .int x1)], [])) (b := (26, [(0, .ref 0), (1, .int x1)], [])) rfl rfl c3 ?_
        refine rsn 3 (t := (29, [(0, .ref 0), (1, .int x1)], [.ref 0, .int 0, .int x1])) rfl ?_
        refine rgR rfl rfl rfl (hSh.k 0 rfl _) (hSh.r 7 rfl _) ?_
        refine rsn 1 (t := (33, [(0, .ref 0), (1, .int x1)], [.ref 0, .ref 8, .int 0, .int x1])) rfl ?_
        refine pgI rfl rfl rfl (hSh.k 0 rfl _) ?_
        show RN xs L al (Ev xs L al d) 178 36 [(0, .ref 0), (1, .int x1)] [.int ((mI m 0 24)), .ref 8, .int 0, .int x1] (m, S) (some (.int r0)) (mf, S)
        obtain ⟨c4, h⟩ := ck_some h
        refine pxI rfl (hSh.k 8 rfl _) (hSh.l 7 rfl _) c4 ?_
        show RN xs L al (Ev xs L al d) 178 37 [(0, .ref 0), (1, .int x1)] [.int ((mX m 8 (((mI m 0 24)).toNatClampNeg))), .int 0, .int x1] (m, S) (some (.int r0)) (mf, S)
        refine rsn 2 (t := (39, [(0, .ref 0), (1, .int x1)], [.int ((((mX m 8 (((mI m 0 24)).toNatClampNeg))) - 1)), .int 0, .int x1])) rfl ?_
        obtain ⟨r5, g5, h⟩ := b1_some h
        refine rcS 146 [.int x1, .int 0, .int ((((mX m 8 (((mI m 0 24)).toNatClampNeg))) - 1))] rfl rfl rfl (Nat.le_of_ble_eq_true rfl) rfl (e_Mo_in N (by omega) g5) ?_
        show RN xs L al (Ev xs L al d) 178 42 [(0, .ref 0), (1, .int x1)] [.int r5] (m, S) (some (.int r0)) (mf, S)
        by_cases c6 : r5 = 0
        · rw [if_pos c6] at h
          refine rjf (a := (47, [(0, .ref 0), (1, .int x1)], [])) (b := (45, [(0, .ref 0), (1, .int x1)], [])) rfl rfl (fun q => q c6) ?_
          refine rsn 1 (t := (46, [(0, .ref 0), (1, .int x1)], [.int ((-1))])) rfl ?_
          cases h
          exact rret rfl ⟨rfl, rfl, _, _, rfl, rfl, rfl, rfl⟩
        · rw [if_neg c6] at h
          refine rjt (a := (47, [(0, .ref 0), (1, .int x1)], [])) (b := (45, [(0, .ref 0), (1, .int x1)], [])) rfl rfl c6 ?_
          refine rsn 2 (t := (49, [(0, .ref 0), (1, .int x1)], [.ref 0, .ref 0])) rfl ?_
          refine pgI rfl rfl rfl (hSh.k 0 rfl _) ?_
          show RN xs L al (Ev xs L al d) 178 52 [(0, .ref 0), (1, .int x1)] [.int ((mI m 0 24)), .ref 0] (m, S) (some (.int r0)) (mf, S)
          refine rsn 2 (t := (54, [(0, .ref 0), (1, .int x1)], [.int 1, .int x1, .int ((mI m 0 24)), .ref 0])) rfl ?_
          obtain ⟨r7, g7, h⟩ := b1_some h
          refine rcV 177 0 [.int ((mI m 0 24)), .int x1, .int 1] rfl rfl rfl (hSh.k 0 rfl _) (Nat.le_of_ble_eq_true rfl) rfl (e_Mo_altOf N (by omega) hSh g7) ?_
          show RN xs L al (Ev xs L al d) 178 57 [(0, .ref 0), (1, .int x1)] [.int r7] (m, S) (some (.int r0)) (mf, S)
          refine rsn 2 (t := (59, [(2, .int r7), (0, .ref 0), (1, .int x1)], [.int r7])) rfl ?_
          have jp76 : ∀ (m8 : Mm), ((jn (fun (m9 : Mm) => some ((((mI m9 0 24)) + 1), (vI m9 0 24 ((((mI m9 0 24)) + 1))))) (fun j105 => if r7 = 1 then b1 (f_Mo_altOf N ((mI m8 0 24)) x1 2 m8) fun r11 => j105 ((vJ m8 0 23 ((((mJ m8 0 23)) ||| ((lsl 1 ((36 + r11)))))))) else j105 m8))) = some (r0, mf) → RN xs L al (Ev xs L al d) 178 76 [(0, .ref 0), (1, .int x1), (2, .int r7)] [] (m8, S) (some (.int r0)) (mf, S) := by
            intro m8 h
            try dsimp only at h
            refine rsn 2 (t := (78, [(0, .ref 0), (1, .int x1), (2, .int r7)], [.int 1, .int r7])) rfl ?_
            have jp105 : ∀ (m9 : Mm), (some ((((mI m9 0 24)) + 1), (vI m9 0 24 ((((mI m9 0 24)) + 1))))) = some (r0, mf) → RN xs L al (Ev xs L al d) 178 105 [(0, .ref 0)] [] (m9, S) (some (.int r0)) (mf, S) := by
              intro m9 h
              try dsimp only at h
              refine rsn 2 (t := (107, [(0, .ref 0)], [.ref 0, .ref 0])) rfl ?_
              refine pgI rfl rfl rfl (hSh.k 0 rfl _) ?_
              show RN xs L al (Ev xs L al d) 178 110 [(0, .ref 0)] [.int ((mI m9 0 24)), .ref 0] (m9, S) (some (.int r0)) (mf, S)
              refine rsn 2 (t := (112, [(0, .ref 0)], [.int ((((mI m9 0 24)) + 1)), .ref 0])) rfl ?_
              refine ppI rfl rfl rfl rfl (hSh.k 0 rfl _) ?_
              refine rsn 1 (t := (116, [(0, .ref 0)], [.ref 0])) rfl ?_
              refine pgI rfl rfl rfl (hSh.k 0 rfl _) ?_
              show RN xs L al (Ev xs L al d) 178 119 [(0, .ref 0)] [.int ((((mI m9 0 24)) + 1))] ((vI m9 0 24 ((((mI m9 0 24)) + 1))), S) (some (.int r0)) (mf, S)
              cases h
              exact rret rfl ⟨rfl, rfl, _, _, rfl, rfl, rfl, rfl⟩
            rw [jn] at h
            try dsimp only at h
            by_cases c10 : r7 = 1
            · rw [if_pos c10] at h
              refine rjf (a := (105, [(0, .ref 0), (1, .int x1), (2, .int r7)], [])) (b := (81, [(0, .ref 0), (1, .int x1), (2, .int r7)], [])) rfl rfl (fun q => q c10) ?_
              refine rsn 2 (t := (83, [(0, .ref 0), (1, .int x1), (2, .int r7)], [.ref 0, .ref 0])) rfl ?_
              refine pgJ rfl rfl rfl (hSh.k 0 rfl _) ?_
              show RN xs L al (Ev xs L al d) 178 86 [(0, .ref 0), (1, .int x1), (2, .int r7)] [.long ((mJ m8 0 23)), .ref 0] (m8, S) (some (.int r0)) (mf, S)
              refine rsn 4 (t := (91, [(0, .ref 0), (1, .int x1), (2, .int r7)], [.ref 0, .ref 0, .int 36, .long 1, .long ((mJ m8 0 23)), .ref 0])) rfl ?_
              refine pgI rfl rfl rfl (hSh.k 0 rfl _) ?_
              show RN xs L al (Ev xs L al d) 178 94 [(0, .ref 0), (1, .int x1), (2, .int r7)] [.int ((mI m8 0 24)), .ref 0, .int 36, .long 1, .long ((mJ m8 0 23)), .ref 0] (m8, S) (some (.int r0)) (mf, S)
              refine rsn 2 (t := (96, [(0, .ref 0), (1, .int x1), (2, .int r7)], [.int 2, .int x1, .int ((mI m8 0 24)), .ref 0, .int 36, .long 1, .long ((mJ m8 0 23)), .ref 0])) rfl ?_
              obtain ⟨r11, g11, h⟩ := b1_some h
              refine rcV 177 0 [.int ((mI m8 0 24)), .int x1, .int 2] rfl rfl rfl (hSh.k 0 rfl _) (Nat.le_of_ble_eq_true rfl) rfl (e_Mo_altOf N (by omega) hSh g11) ?_
              show RN xs L al (Ev xs L al d) 178 99 [(0, .ref 0), (1, .int x1), (2, .int r7)] [.int r11, .int 36, .long 1, .long ((mJ m8 0 23)), .ref 0] (m8, S) (some (.int r0)) (mf, S)
              refine rsn 1 (t := (100, [(0, .ref 0), (1, .int x1), (2, .int r7)], [.int ((36 + r11)), .long 1, .long ((mJ m8 0 23)), .ref 0])) rfl ?_
              refine rsn 1 (t := (101, [(0, .ref 0), (1, .int x1), (2, .int r7)], [.long ((lsl 1 ((36 + r11)))), .long ((mJ m8 0 23)), .ref 0])) rfl ?_
              refine rsn 1 (t := (102, [(0, .ref 0), (1, .int x1), (2, .int r7)], [.long ((((mJ m8 0 23)) ||| ((lsl 1 ((36 + r11)))))), .ref 0])) rfl ?_
              refine ppJ rfl rfl rfl rfl (hSh.k 0 rfl _) ?_
              exact rsub [(0, .ref 0)] ⟨rfl, trivial⟩ ⟨rfl, trivial⟩ (jp105 ((vJ m8 0 23 ((((mJ m8 0 23)) ||| ((lsl 1 ((36 + r11)))))))) h)
            · rw [if_neg c10] at h
              refine rjt (a := (105, [(0, .ref 0), (1, .int x1), (2, .int r7)], [])) (b := (81, [(0, .ref 0), (1, .int x1), (2, .int r7)], [])) rfl rfl c10 ?_
              exact rsub [(0, .ref 0)] ⟨rfl, trivial⟩ ⟨rfl, trivial⟩ (jp105 m8 h)
          rw [jn] at h
          try dsimp only at h
          by_cases c12 : r7 = 0
          · rw [if_pos c12] at h
            refine rjf (a := (76, [(2, .int r7), (0, .ref 0), (1, .int x1)], [])) (b := (62, [(2, .int r7), (0, .ref 0), (1, .int x1)], [])) rfl rfl (fun q => q c12) ?_
            refine rsn 3 (t := (65, [(2, .int r7), (0, .ref 0), (1, .int x1)], [.ref 0, .ref 0, .ref 0])) rfl ?_
            refine pgI rfl rfl rfl (hSh.k 0 rfl _) ?_
            show RN xs L al (Ev xs L al d) 178 68 [(2, .int r7), (0, .ref 0), (1, .int x1)] [.int ((mI m 0 24)), .ref 0, .ref 0] (m, S) (some (.int r0)) (mf, S)
            refine rsn 2 (t := (70, [(2, .int r7), (0, .ref 0), (1, .int x1)], [.int 2, .int x1, .int ((mI m 0 24)), .ref 0, .ref 0])) rfl ?_
            obtain ⟨r13, g13, h⟩ := b1_some h
            refine rcV 177 0 [.int ((mI m 0 24)), .int x1, .int 2] rfl rfl rfl (hSh.k 0 rfl _) (Nat.le_of_ble_eq_true rfl) rfl (e_Mo_altOf N (by omega) hSh g13) ?_
            show RN xs L al (Ev xs L al d) 178 73 [(2, .int r7), (0, .ref 0), (1, .int x1)] [.int r13, .ref 0] (m, S) (some (.int r0)) (mf, S)
            refine ppI rfl rfl rfl rfl (hSh.k 0 rfl _) ?_
            exact rsub [(0, .ref 0), (1, .int x1), (2, .int r7)] ⟨rfl, ⟨rfl, ⟨rfl, trivial⟩⟩⟩ ⟨rfl, ⟨rfl, ⟨rfl, trivial⟩⟩⟩ (jp76 ((vI m 0 25 r13)) h)
          · rw [if_neg c12] at h
            refine rjt (a := (76, [(2, .int r7), (0, .ref 0), (1, .int x1)], [])) (b := (62, [(2, .int r7), (0, .ref 0), (1, .int x1)], [])) rfl rfl c12 ?_
            exact rsub [(0, .ref 0), (1, .int x1), (2, .int r7)] ⟨rfl, ⟨rfl, ⟨rfl, trivial⟩⟩⟩ ⟨rfl, ⟨rfl, ⟨rfl, trivial⟩⟩⟩ (jp76 m h)
    · rw [if_neg c2] at h
      refine rjt (a := (45, [(0, .ref 0), (1, .int x1)], [])) (b := (15, [(0, .ref 0), (1, .int x1)], [])) rfl rfl c2 ?_
      refine rsn 1 (t := (46, [(0, .ref 0), (1, .int x1)], [.int ((-1))])) rfl ?_
      cases h
      exact rret rfl ⟨rfl, rfl, _, _, rfl, rfl, rfl, rfl⟩
def f_Mo_give (N : Nat) (x1 : Int32) (m : Mm) : Option (Int32 × Mm) := (if ((mI m 0 25)) = ((-1)) then some (0, m) else b1 (f_Mo_mayGive N ((mJ m 0 23)) x1 ((mI m 0 21))) fun r2 => (if r2 = 0 then some (0, m) else b1 (f_Mo_one N x1 ((mI m 0 25))) fun r4 => some (1, (vI (vJ m 0 23 ((((mJ m 0 23)) + r4))) 0 25 ((-1))))))
set_option maxRecDepth 20000 in
set_option maxHeartbeats 4000000 in
theorem e_Mo_give {xs : Nat → Int32} {L : Nat} {al : Bool} (N : Nat) {d : Nat} (hd : 4 ≤ d) {S : St} (hSh : ShR S) {x1 : Int32} {m : Mm} {r0 : Int32} {mf : Mm} (h : f_Mo_give N x1 m = some (r0, mf)) : Ev xs L al d 179 [.ref 0, .int x1] (m, S) (some (.int r0)) (mf, S) := by
  obtain ⟨d, rfl⟩ : ∃ e, d = e + 1 := ⟨d - 1, by omega⟩
  refine ev_of (by decide) (Nat.le_of_ble_eq_true rfl) ?_
  rw [f_Mo_give] at h
  show RN xs L al (Ev xs L al d) 179 0 [(0, .ref 0), (1, .int x1)] [] (m, S) (some (.int r0)) (mf, S)
  refine rsn 1 (t := (1, [(0, .ref 0), (1, .int x1)], [.ref 0])) rfl ?_
  refine pgI rfl rfl rfl (hSh.k 0 rfl _) ?_
  show RN xs L al (Ev xs L al d) 179 4 [(0, .ref 0), (1, .int x1)] [.int ((mI m 0 25))] (m, S) (some (.int r0)) (mf, S)
  refine rsn 1 (t := (5, [(0, .ref 0), (1, .int x1)], [.int ((-1)), .int ((mI m 0 25))])) rfl ?_
  by_cases c1 : ((mI m 0 25)) = ((-1))
  · rw [if_pos c1] at h
    refine rjt (a := (23, [(0, .ref 0), (1, .int x1)], [])) (b := (8, [(0, .ref 0), (1, .int x1)], [])) rfl rfl c1 ?_
    refine rsn 1 (t := (24, [(0, .ref 0), (1, .int x1)], [.int 0])) rfl ?_
    cases h
    exact rret rfl ⟨rfl, rfl, _, _, rfl, rfl, rfl, rfl⟩
  · rw [if_neg c1] at h
    refine rjf (a := (23, [(0, .ref 0), (1, .int x1)], [])) (b := (8, [(0, .ref 0), (1, .int x1)], [])) rfl rfl c1 ?_
    refine rsn 1 (t := (9, [(0, .ref 0), (1, .int x1)], [.ref 0])) rfl ?_
    refine pgJ rfl rfl rfl (hSh.k 0 rfl _) ?_
    show RN xs L al (Ev xs L al d) 179 12 [(0, .ref 0), (1, .int x1)] [.long ((mJ m 0 23))] (m, S) (some (.int r0)) (mf, S)
    refine rsn 2 (t := (14, [(0, .ref 0), (1, .int x1)], [.ref 0, .int x1, .long ((mJ m 0 23))])) rfl ?_
    refine pgI rfl rfl rfl (hSh.k 0 rfl _) ?_
    show RN xs L al (Ev xs L al d) 179 17 [(0, .ref 0), (1, .int x1)] [.int ((mI m 0 21)), .int x1, .long ((mJ m 0 23))] (m, S) (some (.int r0)) (mf, S)
    obtain ⟨r2, g2, h⟩ := b1_some h
    refine rcS 180 [.long ((mJ m 0 23)), .int x1, .int ((mI m 0 21))] rfl rfl rfl (Nat.le_of_ble_eq_true rfl) rfl (e_Mo_mayGive N (by omega) g2) ?_
    show RN xs L al (Ev xs L al d) 179 20 [(0, .ref 0), (1, .int x1)] [.int r2] (m, S) (some (.int r0)) (mf, S)
    by_cases c3 : r2 = 0
    · rw [if_pos c3] at h
      refine rjf (a := (25, [(0, .ref 0), (1, .int x1)], [])) (b := (23, [(0, .ref 0), (1, .int x1)], [])) rfl rfl (fun q => q c3) ?_
      refine rsn 1 (t := (24, [(0, .ref 0), (1, .int x1)], [.int 0])) rfl ?_
      cases h
      exact rret rfl ⟨rfl, rfl, _, _, rfl, rfl, rfl, rfl⟩
    · rw [if_neg c3] at h
      refine rjt (a := (25, [(0, .ref 0), (1, .int x1)], [])) (b := (23, [(0, .ref 0), (1, .int x1)], [])) rfl rfl c3 ?_
      refine rsn 2 (t := (27, [(0, .ref 0), (1, .int x1)], [.ref 0, .ref 0])) rfl ?_
      refine pgJ rfl rfl rfl (hSh.k 0 rfl _) ?_
      show RN xs L al (Ev xs L al d) 179 30 [(0, .ref 0), (1, .int x1)] [.long ((mJ m 0 23)), .ref 0] (m, S) (some (.int r0)) (mf, S)
      refine rsn 2 (t := (32, [(0, .ref 0), (1, .int x1)], [.ref 0, .int x1, .long ((mJ m 0 23)), .ref 0])) rfl ?_
      refine pgI rfl rfl rfl (hSh.k 0 rfl _) ?_
      show RN xs L al (Ev xs L al d) 179 35 [(0, .ref 0), (1, .int x1)] [.int ((mI m 0 25)), .int x1, .long ((mJ m 0 23)), .ref 0] (m, S) (some (.int r0)) (mf, S)
      obtain ⟨r4, g4, h⟩ := b1_some h
      refine rcS 182 [.int x1, .int ((mI m 0 25))] rfl rfl rfl (Nat.le_of_ble_eq_true rfl) rfl (e_Mo_one N (by omega) g4) ?_
      show RN xs L al (Ev xs L al d) 179 38 [(0, .ref 0), (1, .int x1)] [.long r4, .long ((mJ m 0 23)), .ref 0] (m, S) (some (.int r0)) (mf, S)
      refine rsn 1 (t := (39, [(0, .ref 0), (1, .int x1)], [.long ((((mJ m 0 23)) + r4)), .ref 0])) rfl ?_
      refine ppJ rfl rfl rfl rfl (hSh.k 0 rfl _) ?_
      refine rsn 2 (t := (44, [(0, .ref 0), (1, .int x1)], [.int ((-1)), .ref 0])) rfl ?_
      refine ppI rfl rfl rfl rfl (hSh.k 0 rfl _) ?_
      refine rsn 1 (t := (48, [(0, .ref 0), (1, .int x1)], [.int 1])) rfl ?_
      cases h
      exact rret rfl ⟨rfl, rfl, _, _, rfl, rfl, rfl, rfl⟩
def f_Mo_share_L38 (N : Nat) (x1 : Int64) (x3 : Int32) (x4 : Int32) (x5 : Int32) (m : Mm) (k38 : Int32 → Int32 → Option (Int32)) : Nat → Int32 → Int32 → Option (Int32)
  | 0, _, _ => none
  | n38 + 1, x6, x7 => (if 3 ≤ x7 then k38 x6 x7 else b1 (f_Mo_worthTo N x1 x5 x7 m) fun r6 => f_Mo_share_L38 N x1 x3 x4 x5 m k38 n38 ((x6 + r6)) ((x7 + 1)))
def f_Mo_share_L14 (N : Nat) (x1 : Int64) (x4 : Int32) (m : Mm) (k14 : Int32 → Int32 → Option (Int32)) : Nat → Int32 → Int32 → Option (Int32)
  | 0, _, _ => none
  | n14 + 1, x3, x5 => (if 3 ≤ x5 then k14 x3 x5 else b1 (f_Mo_hasCome N x1 x5) fun r3 => (if r3 = 0 then f_Mo_share_L14 N x1 x4 m k14 n14 x3 ((x5 + 1)) else f_Mo_share_L38 N x1 x3 x4 x5 m (fun (z7_6 : Int32) (z7_7 : Int32) => (jn (fun (s8 : Int32) => (if x3 ≤ s8 then f_Mo_share_L14 N x1 x4 m k14 n14 x3 ((x5 + 1)) else f_Mo_share_L14 N x1 x4 m k14 n14 s8 ((x5 + 1)))) (fun j94 => if z7_6 = 0 then j94 1000 else b1 (f_Mo_worthTo N x1 x5 x5 m) fun r11 => ck (¬ z7_6 = 0) (j94 ((((((r11 * x4)) * 1000)) / z7_6)))))) N 0 0))
def f_Mo_share (N : Nat) (x1 : Int64) (m : Mm) : Option (Int32) := b1 (f_Mo_manyCame N x1) fun r1 => f_Mo_share_L14 N x1 r1 m (fun (z16_3 : Int32) (z16_5 : Int32) => some z16_3) N 3000 0
set_option maxRecDepth 20000 in
set_option maxHeartbeats 4000000 in
theorem e_Mo_share {xs : Nat → Int32} {L : Nat} {al : Bool} (N : Nat) {d : Nat} (hd : 3 ≤ d) {S : St} (hSh : ShR S) {x1 : Int64} {m : Mm} {r0 : Int32} (h : f_Mo_share N x1 m = some r0) : Ev xs L al d 188 [.ref 0, .long x1] (m, S) (some (.int r0)) (m, S) := by
  obtain ⟨d, rfl⟩ : ∃ e, d = e + 1 := ⟨d - 1, by omega⟩
  refine ev_of (by decide) (Nat.le_of_ble_eq_true rfl) ?_
  rw [f_Mo_share] at h
  show RN xs L al (Ev xs L al d) 188 0 [(0, .ref 0), (1, .long x1)] [] (m, S) (some (.int r0)) (m, S)
  refine rsn 4 (t := (6, [(3, .int 3000), (0, .ref 0), (1, .long x1)], [.long x1, .ref 0])) rfl ?_
  obtain ⟨r1, g1, h⟩ := b1_some h
  refine rcV 189 0 [.long x1] rfl rfl rfl (hSh.k 0 rfl _) (Nat.le_of_ble_eq_true rfl) rfl (e_Mo_manyCame N (by omega) g1) ?_
  show RN xs L al (Ev xs L al d) 188 9 [(3, .int 3000), (0, .ref 0), (1, .long x1)] [.int r1] (m, S) (some (.int r0)) (m, S)
  refine rsn 3 (t := (14, [(5, .int 0), (4, .int r1), (3, .int 3000), (0, .ref 0), (1, .long x1)], [])) rfl ?_
  have ex14 : ∀ (z16_3 : Int32) (z16_5 : Int32), (some z16_3) = some r0 → RN xs L al (Ev xs L al d) 188 115 [(3, .int z16_3)] [] (m, S) (some (.int r0)) (m, S) := by
    intro z16_3 z16_5 h
    try dsimp only at h
    refine rsn 1 (t := (116, [(3, .int z16_3)], [.int z16_3])) rfl ?_
    cases h
    exact rret rfl ⟨rfl, rfl, _, _, rfl, rfl, rfl, rfl⟩
  have lp14 : ∀ (n : Nat) (y17_3 : Int32) (y17_5 : Int32), (f_Mo_share_L14 N x1 r1 m (fun (z16_3 : Int32) (z16_5 : Int32) => some z16_3) n y17_3 y17_5) = some r0 → RN xs L al (Ev xs L al d) 188 14 [(0, .ref 0), (1, .long x1), (3, .int y17_3), (4, .int r1), (5, .int y17_5)] [] (m, S) (some (.int r0)) (m, S) := by
    intro n
    induction n with
    | zero => intro y17_3 y17_5 h; exact absurd h (by simp [f_Mo_share_L14])
    | succ n14 ih14 =>
      intro y17_3 y17_5 h
      try dsimp only at h
      rw [f_Mo_share_L14] at h
      try dsimp only at h
      refine rsn 2 (t := (17, [(0, .ref 0), (1, .long x1), (3, .int y17_3), (4, .int r1), (5, .int y17_5)], [.int 3, .int y17_5])) rfl ?_
      by_cases c18 : 3 ≤ y17_5
      · rw [if_pos c18] at h
        refine rjt (a := (115, [(0, .ref 0), (1, .long x1), (3, .int y17_3), (4, .int r1), (5, .int y17_5)], [])) (b := (20, [(0, .ref 0), (1, .long x1), (3, .int y17_3), (4, .int r1), (5, .int y17_5)], [])) rfl rfl c18 ?_
        exact rsub [(3, .int y17_3)] ⟨rfl, trivial⟩ ⟨rfl, trivial⟩ (ex14 y17_3 y17_5 h)
      · rw [if_neg c18] at h
        refine rjf (a := (115, [(0, .ref 0), (1, .long x1), (3, .int y17_3), (4, .int r1), (5, .int y17_5)], [])) (b := (20, [(0, .ref 0), (1, .long x1), (3, .int y17_3), (4, .int r1), (5, .int y17_5)], [])) rfl rfl c18 ?_
        refine rsn 2 (t := (23, [(0, .ref 0), (1, .long x1), (3, .int y17_3), (4, .int r1), (5, .int y17_5)], [.int y17_5, .long x1])) rfl ?_
        obtain ⟨r19, g19, h⟩ := b1_some h
        refine rcS 173 [.long x1, .int y17_5] rfl rfl rfl (Nat.le_of_ble_eq_true rfl) rfl (e_Mo_hasCome N (by omega) g19) ?_
        show RN xs L al (Ev xs L al d) 188 26 [(0, .ref 0), (1, .long x1), (3, .int y17_3), (4, .int r1), (5, .int y17_5)] [.int r19] (m, S) (some (.int r0)) (m, S)
        by_cases c20 : r19 = 0
        · rw [if_pos c20] at h
          refine rjf (a := (32, [(0, .ref 0), (1, .long x1), (3, .int y17_3), (4, .int r1), (5, .int y17_5)], [])) (b := (29, [(0, .ref 0), (1, .long x1), (3, .int y17_3), (4, .int r1), (5, .int y17_5)], [])) rfl rfl (fun q => q c20) ?_
          refine rsn 3 (t := (14, [(5, .int ((y17_5 + 1))), (0, .ref 0), (1, .long x1), (3, .int y17_3), (4, .int r1)], [])) rfl ?_
          exact rsub [(0, .ref 0), (1, .long x1), (3, .int y17_3), (4, .int r1), (5, .int ((y17_5 + 1)))] ⟨rfl, ⟨rfl, ⟨rfl, ⟨rfl, ⟨rfl, trivial⟩⟩⟩⟩⟩ ⟨rfl, ⟨rfl, ⟨rfl, ⟨rfl, ⟨rfl, trivial⟩⟩⟩⟩⟩ (ih14 y17_3 ((y17_5 + 1)) h)
        · rw [if_neg c20] at h
          refine rjt (a := (32, [(0, .ref 0), (1, .long x1), (3, .int y17_3), (4, .int r1), (5, .int y17_5)], [])) (b := (29, [(0, .ref 0), (1, .long x1), (3, .int y17_3), (4, .int r1), (5, .int y17_5)], [])) rfl rfl c20 ?_
          refine rsn 4 (t := (38, [(7, .int 0), (6, .int 0), (0, .ref 0), (1, .long x1), (3, .int y17_3), (4, .int r1), (5, .int y17_5)], [])) rfl ?_
          have ex38 : ∀ (z23_6 : Int32) (z23_7 : Int32), ((jn (fun (s24 : Int32) => (if y17_3 ≤ s24 then f_Mo_share_L14 N x1 r1 m (fun (z16_3 : Int32) (z16_5 : Int32) => some z16_3) n14 y17_3 ((y17_5 + 1)) else f_Mo_share_L14 N x1 r1 m (fun (z16_3 : Int32) (z16_5 : Int32) => some z16_3) n14 s24 ((y17_5 + 1)))) (fun j94 => if z23_6 = 0 then j94 1000 else b1 (f_Mo_worthTo N x1 y17_5 y17_5 m) fun r27 => ck (¬ z23_6 = 0) (j94 ((((((r27 * r1)) * 1000)) / z23_6)))))) = some r0 → RN xs L al (Ev xs L al d) 188 64 [(0, .ref 0), (1, .long x1), (3, .int y17_3), (4, .int r1), (5, .int y17_5), (6, .int z23_6)] [] (m, S) (some (.int r0)) (m, S) := by
            intro z23_6 z23_7 h
            try dsimp only at h
            refine rsn 1 (t := (66, [(0, .ref 0), (1, .long x1), (3, .int y17_3), (4, .int r1), (5, .int y17_5), (6, .int z23_6)], [.int z23_6])) rfl ?_
            have jp94 : ∀ (s24 : Int32), ((if y17_3 ≤ s24 then f_Mo_share_L14 N x1 r1 m (fun (z16_3 : Int32) (z16_5 : Int32) => some z16_3) n14 y17_3 ((y17_5 + 1)) else f_Mo_share_L14 N x1 r1 m (fun (z16_3 : Int32) (z16_5 : Int32) => some z16_3) n14 s24 ((y17_5 + 1)))) = some r0 → RN xs L al (Ev xs L al d) 188 94 [(0, .ref 0), (1, .long x1), (3, .int y17_3), (4, .int r1), (5, .int y17_5)] [.int s24] (m, S) (some (.int r0)) (m, S) := by
              intro s24 h
              try dsimp only at h
              refine rsn 3 (t := (99, [(7, .int s24), (0, .ref 0), (1, .long x1), (3, .int y17_3), (4, .int r1), (5, .int y17_5)], [.int y17_3, .int s24])) rfl ?_
              by_cases c25 : y17_3 ≤ s24
              · rw [if_pos c25] at h
                refine rjt (a := (107, [(7, .int s24), (0, .ref 0), (1, .long x1), (3, .int y17_3), (4, .int r1), (5, .int y17_5)], [])) (b := (102, [(7, .int s24), (0, .ref 0), (1, .long x1), (3, .int y17_3), (4, .int r1), (5, .int y17_5)], [])) rfl rfl c25 ?_
                refine rsn 4 (t := (14, [(5, .int ((y17_5 + 1))), (3, .int y17_3), (7, .int s24), (0, .ref 0), (1, .long x1), (4, .int r1)], [])) rfl ?_
                exact rsub [(0, .ref 0), (1, .long x1), (3, .int y17_3), (4, .int r1), (5, .int ((y17_5 + 1)))] ⟨rfl, ⟨rfl, ⟨rfl, ⟨rfl, ⟨rfl, trivial⟩⟩⟩⟩⟩ ⟨rfl, ⟨rfl, ⟨rfl, ⟨rfl, ⟨rfl, trivial⟩⟩⟩⟩⟩ (ih14 y17_3 ((y17_5 + 1)) h)
              · rw [if_neg c25] at h
                refine rjf (a := (107, [(7, .int s24), (0, .ref 0), (1, .long x1), (3, .int y17_3), (4, .int r1), (5, .int y17_5)], [])) (b := (102, [(7, .int s24), (0, .ref 0), (1, .long x1), (3, .int y17_3), (4, .int r1), (5, .int y17_5)], [])) rfl rfl c25 ?_
                refine rsn 5 (t := (14, [(5, .int ((y17_5 + 1))), (3, .int s24), (7, .int s24), (0, .ref 0), (1, .long x1), (4, .int r1)], [])) rfl ?_
                exact rsub [(0, .ref 0), (1, .long x1), (3, .int s24), (4, .int r1), (5, .int ((y17_5 + 1)))] ⟨rfl, ⟨rfl, ⟨rfl, ⟨rfl, ⟨rfl, trivial⟩⟩⟩⟩⟩ ⟨rfl, ⟨rfl, ⟨rfl, ⟨rfl, ⟨rfl, trivial⟩⟩⟩⟩⟩ (ih14 s24 ((y17_5 + 1)) h)
            rw [jn] at h
            try dsimp only at h
            by_cases c26 : z23_6 = 0
            · rw [if_pos c26] at h
              refine rjf (a := (75, [(0, .ref 0), (1, .long x1), (3, .int y17_3), (4, .int r1), (5, .int y17_5), (6, .int z23_6)], [])) (b := (69, [(0, .ref 0), (1, .long x1), (3, .int y17_3), (4, .int r1), (5, .int y17_5), (6, .int z23_6)], [])) rfl rfl (fun q => q c26) ?_
              refine rsn 2 (t := (94, [(0, .ref 0), (1, .long x1), (3, .int y17_3), (4, .int r1), (5, .int y17_5), (6, .int z23_6)], [.int 1000])) rfl ?_
              exact rsub [(0, .ref 0), (1, .long x1), (3, .int y17_3), (4, .int r1), (5, .int y17_5)] ⟨rfl, ⟨rfl, ⟨rfl, ⟨rfl, ⟨rfl, trivial⟩⟩⟩⟩⟩ ⟨rfl, ⟨rfl, ⟨rfl, ⟨rfl, ⟨rfl, trivial⟩⟩⟩⟩⟩ (jp94 1000 h)
            · rw [if_neg c26] at h
              refine rjt (a := (75, [(0, .ref 0), (1, .long x1), (3, .int y17_3), (4, .int r1), (5, .int y17_5), (6, .int z23_6)], [])) (b := (69, [(0, .ref 0), (1, .long x1), (3, .int y17_3), (4, .int r1), (5, .int y17_5), (6, .int z23_6)], [])) rfl rfl c26 ?_
              refine rsn 4 (t := (81, [(0, .ref 0), (1, .long x1), (3, .int y17_3), (4, .int r1), (5, .int y17_5), (6, .int z23_6)], [.int y17_5, .int y17_5, .long x1, .ref 0])) rfl ?_
              obtain ⟨r27, g27, h⟩ := b1_some h
              refine rcV 175 0 [.long x1, .int y17_5, .int y17_5] rfl rfl rfl (hSh.k 0 rfl _) (Nat.le_of_ble_eq_true rfl) rfl (e_Mo_worthTo N (by omega) hSh g27) ?_
              show RN xs L al (Ev xs L al d) 188 84 [(0, .ref 0), (1, .long x1), (3, .int y17_3), (4, .int r1), (5, .int y17_5), (6, .int z23_6)] [.int r27] (m, S) (some (.int r0)) (m, S)
              refine rsn 5 (t := (93, [(0, .ref 0), (1, .long x1), (3, .int y17_3), (4, .int r1), (5, .int y17_5), (6, .int z23_6)], [.int z23_6, .int ((((r27 * r1)) * 1000))])) rfl ?_
              obtain ⟨c28, h⟩ := ck_some h
              refine rs (t := (94, [(0, .ref 0), (1, .long x1), (3, .int y17_3), (4, .int r1), (5, .int y17_5), (6, .int z23_6)], [.int ((((((r27 * r1)) * 1000)) / z23_6))])) rfl (by simp [stp, nxt, dI, c28, irm, lrm]) ?_
              exact rsub [(0, .ref 0), (1, .long x1), (3, .int y17_3), (4, .int r1), (5, .int y17_5)] ⟨rfl, ⟨rfl, ⟨rfl, ⟨rfl, ⟨rfl, trivial⟩⟩⟩⟩⟩ ⟨rfl, ⟨rfl, ⟨rfl, ⟨rfl, ⟨rfl, trivial⟩⟩⟩⟩⟩ (jp94 ((((((r27 * r1)) * 1000)) / z23_6)) h)
          have lp38 : ∀ (n : Nat) (y29_6 : Int32) (y29_7 : Int32), (f_Mo_share_L38 N x1 y17_3 r1 y17_5 m (fun (z23_6 : Int32) (z23_7 : Int32) => (jn (fun (s24 : Int32) => (if y17_3 ≤ s24 then f_Mo_share_L14 N x1 r1 m (fun (z16_3 : Int32) (z16_5 : Int32) => some z16_3) n14 y17_3 ((y17_5 + 1)) else f_Mo_share_L14 N x1 r1 m (fun (z16_3 : Int32) (z16_5 : Int32) => some z16_3) n14 s24 ((y17_5 + 1)))) (fun j94 => if z23_6 = 0 then j94 1000 else b1 (f_Mo_worthTo N x1 y17_5 y17_5 m) fun r27 => ck (¬ z23_6 = 0) (j94 ((((((r27 * r1)) * 1000)) / z23_6)))))) n y29_6 y29_7) = some r0 → RN xs L al (Ev xs L al d) 188 38 [(0, .ref 0), (1, .long x1), (3, .int y17_3), (4, .int r1), (5, .int y17_5), (6, .int y29_6), (7, .int y29_7)] [] (m, S) (some (.int r0)) (m, S) := by
            intro n
            induction n with
            | zero => intro y29_6 y29_7 h; exact absurd h (by simp [f_Mo_share_L38])
            | succ n38 ih38 =>
              intro y29_6 y29_7 h
              try dsimp only at h
              rw [f_Mo_share_L38] at h
              try dsimp only at h
              refine rsn 2 (t := (41, [(0, .ref 0), (1, .long x1), (3, .int y17_3), (4, .int r1), (5, .int y17_5), (6, .int y29_6), (7, .int y29_7)], [.int 3, .int y29_7])) rfl ?_
              by_cases c30 : 3 ≤ y29_7
              · rw [if_pos c30] at h
                refine rjt (a := (64, [(0, .ref 0), (1, .long x1), (3, .int y17_3), (4, .int r1), (5, .int y17_5), (6, .int y29_6), (7, .int y29_7)], [])) (b := (44, [(0, .ref 0), (1, .long x1), (3, .int y17_3), (4, .int r1), (5, .int y17_5), (6, .int y29_6), (7, .int y29_7)], [])) rfl rfl c30 ?_
                exact rsub [(0, .ref 0), (1, .long x1), (3, .int y17_3), (4, .int r1), (5, .int y17_5), (6, .int y29_6)] ⟨rfl, ⟨rfl, ⟨rfl, ⟨rfl, ⟨rfl, ⟨rfl, trivial⟩⟩⟩⟩⟩⟩ ⟨rfl, ⟨rfl, ⟨rfl, ⟨rfl, ⟨rfl, ⟨rfl, trivial⟩⟩⟩⟩⟩⟩ (ex38 y29_6 y29_7 h)
              · rw [if_neg c30] at h
                refine rjf (a := (64, [(0, .ref 0), (1, .long x1), (3, .int y17_3), (4, .int r1), (5, .int y17_5), (6, .int y29_6), (7, .int y29_7)], [])) (b := (44, [(0, .ref 0), (1, .long x1), (3, .int y17_3), (4, .int r1), (5, .int y17_5), (6, .int y29_6), (7, .int y29_7)], [])) rfl rfl c30 ?_
                refine rsn 5 (t := (52, [(0, .ref 0), (1, .long x1), (3, .int y17_3), (4, .int r1), (5, .int y17_5), (6, .int y29_6), (7, .int y29_7)], [.int y29_7, .int y17_5, .long x1, .ref 0, .int y29_6])) rfl ?_
                obtain ⟨r31, g31, h⟩ := b1_some h
                refine rcV 175 0 [.long x1, .int y17_5, .int y29_7] rfl rfl rfl (hSh.k 0 rfl _) (Nat.le_of_ble_eq_true rfl) rfl (e_Mo_worthTo N (by omega) hSh g31) ?_
                show RN xs L al (Ev xs L al d) 188 55 [(0, .ref 0), (1, .long x1), (3, .int y17_3), (4, .int r1), (5, .int y17_5), (6, .int y29_6), (7, .int y29_7)] [.int r31, .int y29_6] (m, S) (some (.int r0)) (m, S)
                refine rsn 4 (t := (38, [(7, .int ((y29_7 + 1))), (6, .int ((y29_6 + r31))), (0, .ref 0), (1, .long x1), (3, .int y17_3), (4, .int r1), (5, .int y17_5)], [])) rfl ?_
                exact rsub [(0, .ref 0), (1, .long x1), (3, .int y17_3), (4, .int r1), (5, .int y17_5), (6, .int ((y29_6 + r31))), (7, .int ((y29_7 + 1)))] ⟨rfl, ⟨rfl, ⟨rfl, ⟨rfl, ⟨rfl, ⟨rfl, ⟨rfl, trivial⟩⟩⟩⟩⟩⟩⟩ ⟨rfl, ⟨rfl, ⟨rfl, ⟨rfl, ⟨rfl, ⟨rfl, ⟨rfl, trivial⟩⟩⟩⟩⟩⟩⟩ (ih38 ((y29_6 + r31)) ((y29_7 + 1)) h)
          exact rsub [(0, .ref 0), (1, .long x1), (3, .int y17_3), (4, .int r1), (5, .int y17_5), (6, .int 0), (7, .int 0)] ⟨rfl, ⟨rfl, ⟨rfl, ⟨rfl, ⟨rfl, ⟨rfl, ⟨rfl, trivial⟩⟩⟩⟩⟩⟩⟩ ⟨rfl, ⟨rfl, ⟨rfl, ⟨rfl, ⟨rfl, ⟨rfl, ⟨rfl, trivial⟩⟩⟩⟩⟩⟩⟩ (lp38 N 0 0 h)
  exact rsub [(0, .ref 0), (1, .long x1), (3, .int 3000), (4, .int r1), (5, .int 0)] ⟨rfl, ⟨rfl, ⟨rfl, ⟨rfl, ⟨rfl, trivial⟩⟩⟩⟩⟩ ⟨rfl, ⟨rfl, ⟨rfl, ⟨rfl, ⟨rfl, trivial⟩⟩⟩⟩⟩ (lp14 N 3000 0 h)
