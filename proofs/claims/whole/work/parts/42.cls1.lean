/-! The class's methods as functions (printed by wip/whole/gen_fun.py). -/
def f_Reader_readBack (N : Nat) (S : St) (x1 : Nat) (m : Mm) : Option (Int32 × Mm) := (if ((mI m x1 5)) = 0 then b3 (f_Reader_step N S m) fun m2 => b1 (f_Reader_isNumber N S 0 1 m2) fun r3 => (if r3 = 0 then some (0, m2) else b2 (f_Reader_passSemicolon N S (vI (vI m2 x1 3 ((mI m2 2 5))) x1 5 1)) fun r5 m5 => ck (r5 = 0 ∨ r5 = 1) (some (r5, m5))) else some (0, m))
set_option maxRecDepth 20000 in
set_option maxHeartbeats 4000000 in
theorem e_Reader_readBack {xs : Nat → Int32} {L : Nat} {al : Bool} (N : Nat) {d : Nat} (hd : 5 ≤ d) {S : St} (hSh : ShC S) {x1 : Nat} (hx1 : x1 ∈ wKl) {m : Mm} {r0 : Int32} {mf : Mm} (h : f_Reader_readBack N S x1 m = some (r0, mf)) : Ev xs L al d 41 [.ref 2, .ref x1] (m, S) (some (.int r0)) (mf, S) := by
  obtain ⟨d, rfl⟩ : ∃ e, d = e + 1 := ⟨d - 1, by omega⟩
  refine ev_of (by decide) (Nat.le_of_ble_eq_true rfl) ?_
  rw [f_Reader_readBack] at h
  show RN xs L al (Ev xs L al d) 41 0 [(0, .ref 2), (1, .ref x1)] [] (m, S) (some (.int r0)) (mf, S)
  refine rsn 1 (t := (1, [(0, .ref 2), (1, .ref x1)], [.ref x1])) rfl ?_
  refine pgI rfl rfl rfl (hSh.kW hx1 _) ?_
  show RN xs L al (Ev xs L al d) 41 4 [(0, .ref 2), (1, .ref x1)] [.int ((mI m x1 5))] (m, S) (some (.int r0)) (mf, S)
  by_cases c1 : ((mI m x1 5)) = 0
  · rw [if_pos c1] at h
    refine rjt (a := (9, [(0, .ref 2), (1, .ref x1)], [])) (b := (7, [(0, .ref 2), (1, .ref x1)], [])) rfl rfl c1 ?_
    refine rsn 1 (t := (10, [(0, .ref 2), (1, .ref x1)], [.ref 2])) rfl ?_
    obtain ⟨m2, g2, h⟩ := b3_some h
    refine rcV 19 2 [] rfl rfl rfl (hSh.1.k 2 rfl _) (Nat.le_of_ble_eq_true rfl) rfl (e_Reader_step N (by omega) hSh g2) ?_
    show RN xs L al (Ev xs L al d) 41 13 [(0, .ref 2), (1, .ref x1)] [] (m2, S) (some (.int r0)) (mf, S)
    refine rsn 3 (t := (16, [(0, .ref 2), (1, .ref x1)], [.int 1, .int 0, .ref 2])) rfl ?_
    obtain ⟨r3, g3, h⟩ := b1_some h
    refine rcV 30 2 [.int 0, .int 1] rfl rfl rfl (hSh.1.k 2 rfl _) (Nat.le_of_ble_eq_true rfl) rfl (e_Reader_isNumber N (by omega) hSh g3) ?_
    show RN xs L al (Ev xs L al d) 41 19 [(0, .ref 2), (1, .ref x1)] [.int r3] (m2, S) (some (.int r0)) (mf, S)
    by_cases c4 : r3 = 0
    · rw [if_pos c4] at h
      refine rjf (a := (24, [(0, .ref 2), (1, .ref x1)], [])) (b := (22, [(0, .ref 2), (1, .ref x1)], [])) rfl rfl (fun q => q c4) ?_
      refine rsn 1 (t := (23, [(0, .ref 2), (1, .ref x1)], [.int 0])) rfl ?_
      obtain ⟨h, h2⟩ := Prod.mk.inj (Option.some.inj h)
      subst h
      subst h2
      exact rret rfl ⟨rfl, rfl, _, _, rfl, rfl, rfl, rfl⟩
    · rw [if_neg c4] at h
      refine rjt (a := (24, [(0, .ref 2), (1, .ref x1)], [])) (b := (22, [(0, .ref 2), (1, .ref x1)], [])) rfl rfl c4 ?_
      refine rsn 2 (t := (26, [(0, .ref 2), (1, .ref x1)], [.ref 2, .ref x1])) rfl ?_
      refine pgI rfl rfl rfl (hSh.1.k 2 rfl _) ?_
      show RN xs L al (Ev xs L al d) 41 29 [(0, .ref 2), (1, .ref x1)] [.int ((mI m2 2 5)), .ref x1] (m2, S) (some (.int r0)) (mf, S)
      refine ppI rfl rfl rfl rfl (hSh.kW hx1 _) ?_
      refine rsn 2 (t := (34, [(0, .ref 2), (1, .ref x1)], [.int 1, .ref x1])) rfl ?_
      refine ppZ rfl rfl rfl rfl (hSh.kW hx1 _) (Or.inr rfl) ?_
      refine rsn 1 (t := (38, [(0, .ref 2), (1, .ref x1)], [.ref 2])) rfl ?_
      obtain ⟨r5, m5, g5, h⟩ := b2_some h
      refine rcV 40 2 [] rfl rfl rfl (hSh.1.k 2 rfl _) (Nat.le_of_ble_eq_true rfl) rfl (e_Reader_passSemicolon N (by omega) hSh g5) ?_
      show RN xs L al (Ev xs L al d) 41 41 [(0, .ref 2), (1, .ref x1)] [.int r5] (m5, S) (some (.int r0)) (mf, S)
      obtain ⟨c6, h⟩ := ck_some h
      obtain ⟨h, h2⟩ := Prod.mk.inj (Option.some.inj h)
      subst h
      subst h2
      exact rret rfl ⟨rfl, rfl, _, _, rfl, rfl, rfl, nz_of c6⟩
  · rw [if_neg c1] at h
    refine rjf (a := (9, [(0, .ref 2), (1, .ref x1)], [])) (b := (7, [(0, .ref 2), (1, .ref x1)], [])) rfl rfl c1 ?_
    refine rsn 1 (t := (8, [(0, .ref 2), (1, .ref x1)], [.int 0])) rfl ?_
    obtain ⟨h, h2⟩ := Prod.mk.inj (Option.some.inj h)
    subst h
    subst h2
    exact rret rfl ⟨rfl, rfl, _, _, rfl, rfl, rfl, rfl⟩
def f_Reader_readPart (N : Nat) (S : St) (x1 : Nat) (m : Mm) : Option (Int32 × Mm) := (if ((mI m 2 3)) = 1 then (jn (fun (_ : Unit) => (if ((mJ m 2 6)) = 1818326117 then b2 (f_Reader_readHeir N S x1 1 m) fun r5 m5 => ck (r5 = 0 ∨ r5 = 1) (some (r5, m5)) else b2 (f_Reader_readHeir N S x1 0 m) fun r3 m3 => ck (r3 = 0 ∨ r3 = 1) (some (r3, m3)))) (fun j32 => if ((mJ m 2 6)) = 1751476594 then j32 () else (if ((mJ m 2 6)) = 1818326117 then j32 () else (if ((mJ m 2 6)) = 6578553 then b2 (f_Reader_readDay N S x1 m) fun r16 m16 => ck (r16 = 0 ∨ r16 = 1) (some (r16, m16)) else (if ((mJ m 2 6)) = 1752132708 then b2 (f_Reader_readHold N S x1 m) fun r14 m14 => ck (r14 = 0 ∨ r14 = 1) (some (r14, m14)) else (if ((mJ m 2 6)) = 1650549611 then b2 (f_Reader_readBack N S x1 m) fun r12 m12 => (if r12 = 0 then some (0, m12) else some (1, m12)) else some (0, m))))))) else some (0, m))
set_option maxRecDepth 20000 in
set_option maxHeartbeats 4000000 in
theorem e_Reader_readPart {xs : Nat → Int32} {L : Nat} {al : Bool} (N : Nat) {d : Nat} (hd : 6 ≤ d) {S : St} (hSh : ShC S) {x1 : Nat} (hx1 : x1 ∈ wKl) {m : Mm} {r0 : Int32} {mf : Mm} (h : f_Reader_readPart N S x1 m = some (r0, mf)) : Ev xs L al d 25 [.ref 2, .ref x1] (m, S) (some (.int r0)) (mf, S) := by
  obtain ⟨d, rfl⟩ : ∃ e, d = e + 1 := ⟨d - 1, by omega⟩
  refine ev_of (by decide) (Nat.le_of_ble_eq_true rfl) ?_
  rw [f_Reader_readPart] at h
  show RN xs L al (Ev xs L al d) 25 0 [(0, .ref 2), (1, .ref x1)] [] (m, S) (some (.int r0)) (mf, S)
  refine rsn 1 (t := (1, [(0, .ref 2), (1, .ref x1)], [.ref 2])) rfl ?_
  refine pgI rfl rfl rfl (hSh.1.k 2 rfl _) ?_
  show RN xs L al (Ev xs L al d) 25 4 [(0, .ref 2), (1, .ref x1)] [.int ((mI m 2 3))] (m, S) (some (.int r0)) (mf, S)
  refine rsn 1 (t := (5, [(0, .ref 2), (1, .ref x1)], [.int 1, .int ((mI m 2 3))])) rfl ?_
  by_cases c1 : ((mI m 2 3)) = 1
  · rw [if_pos c1] at h
    refine rjt (a := (10, [(0, .ref 2), (1, .ref x1)], [])) (b := (8, [(0, .ref 2), (1, .ref x1)], [])) rfl rfl c1 ?_
    refine rsn 1 (t := (11, [(0, .ref 2), (1, .ref x1)], [.ref 2])) rfl ?_
    refine pgJ rfl rfl rfl (hSh.1.k 2 rfl _) ?_
    show RN xs L al (Ev xs L al d) 25 14 [(0, .ref 2), (1, .ref x1)] [.long ((mJ m 2 6))] (m, S) (some (.int r0)) (mf, S)
    refine rsn 2 (t := (18, [(0, .ref 2), (1, .ref x1)], [.int ((lg_cmp ((mJ m 2 6)) 1751476594))])) rfl ?_
    have jp32 : ∀ (_ : Unit), ((if ((mJ m 2 6)) = 1818326117 then b2 (f_Reader_readHeir N S x1 1 m) fun r5 m5 => ck (r5 = 0 ∨ r5 = 1) (some (r5, m5)) else b2 (f_Reader_readHeir N S x1 0 m) fun r3 m3 => ck (r3 = 0 ∨ r3 = 1) (some (r3, m3)))) = some (r0, mf) → RN xs L al (Ev xs L al d) 25 32 [(0, .ref 2), (1, .ref x1)] [] (m, S) (some (.int r0)) (mf, S) := by
      intro _ h
      try dsimp only at h
      refine rsn 3 (t := (35, [(0, .ref 2), (1, .ref x1)], [.ref 2, .ref x1, .ref 2])) rfl ?_
      refine pgJ rfl rfl rfl (hSh.1.k 2 rfl _) ?_
      show RN xs L al (Ev xs L al d) 25 38 [(0, .ref 2), (1, .ref x1)] [.long ((mJ m 2 6)), .ref x1, .ref 2] (m, S) (some (.int r0)) (mf, S)
      refine rsn 2 (t := (42, [(0, .ref 2), (1, .ref x1)], [.int ((lg_cmp ((mJ m 2 6)) 1818326117)), .ref x1, .ref 2])) rfl ?_
      by_cases c2 : ((mJ m 2 6)) = 1818326117
      · rw [if_pos c2] at h
        refine rjf (a := (49, [(0, .ref 2), (1, .ref x1)], [.ref x1, .ref 2])) (b := (45, [(0, .ref 2), (1, .ref x1)], [.ref x1, .ref 2])) rfl rfl (fun q => q (lgc_eq.mpr c2)) ?_
        refine rsn 2 (t := (50, [(0, .ref 2), (1, .ref x1)], [.int 1, .ref x1, .ref 2])) rfl ?_
        obtain ⟨r5, m5, g5, h⟩ := b2_some h
        refine rcV 26 2 [.ref x1, .int 1] rfl rfl rfl (hSh.1.k 2 rfl _) (Nat.le_of_ble_eq_true rfl) rfl (e_Reader_readHeir N (by omega) hSh hx1 g5) ?_
        show RN xs L al (Ev xs L al d) 25 53 [(0, .ref 2), (1, .ref x1)] [.int r5] (m5, S) (some (.int r0)) (mf, S)
        obtain ⟨c6, h⟩ := ck_some h
        obtain ⟨h, h2⟩ := Prod.mk.inj (Option.some.inj h)
        subst h
        subst h2
        exact rret rfl ⟨rfl, rfl, _, _, rfl, rfl, rfl, nz_of c6⟩
      · rw [if_neg c2] at h
        refine rjt (a := (49, [(0, .ref 2), (1, .ref x1)], [.ref x1, .ref 2])) (b := (45, [(0, .ref 2), (1, .ref x1)], [.ref x1, .ref 2])) rfl rfl (fun q => c2 (lgc_eq.mp q)) ?_
        refine rsn 1 (t := (50, [(0, .ref 2), (1, .ref x1)], [.int 0, .ref x1, .ref 2])) rfl ?_
        obtain ⟨r3, m3, g3, h⟩ := b2_some h
        refine rcV 26 2 [.ref x1, .int 0] rfl rfl rfl (hSh.1.k 2 rfl _) (Nat.le_of_ble_eq_true rfl) rfl (e_Reader_readHeir N (by omega) hSh hx1 g3) ?_
        show RN xs L al (Ev xs L al d) 25 53 [(0, .ref 2), (1, .ref x1)] [.int r3] (m3, S) (some (.int r0)) (mf, S)
        obtain ⟨c4, h⟩ := ck_some h
        obtain ⟨h, h2⟩ := Prod.mk.inj (Option.some.inj h)
        subst h
        subst h2
        exact rret rfl ⟨rfl, rfl, _, _, rfl, rfl, rfl, nz_of c4⟩
    rw [jn] at h
    try dsimp only at h
    by_cases c7 : ((mJ m 2 6)) = 1751476594
    · rw [if_pos c7] at h
      refine rjt (a := (32, [(0, .ref 2), (1, .ref x1)], [])) (b := (21, [(0, .ref 2), (1, .ref x1)], [])) rfl rfl (lgc_eq.mpr c7) ?_
      exact rsub [(0, .ref 2), (1, .ref x1)] ⟨rfl, ⟨rfl, trivial⟩⟩ ⟨rfl, ⟨rfl, trivial⟩⟩ (jp32 () h)
    · rw [if_neg c7] at h
      refine rjf (a := (32, [(0, .ref 2), (1, .ref x1)], [])) (b := (21, [(0, .ref 2), (1, .ref x1)], [])) rfl rfl (fun q => c7 (lgc_eq.mp q)) ?_
      refine rsn 1 (t := (22, [(0, .ref 2), (1, .ref x1)], [.ref 2])) rfl ?_
      refine pgJ rfl rfl rfl (hSh.1.k 2 rfl _) ?_
      show RN xs L al (Ev xs L al d) 25 25 [(0, .ref 2), (1, .ref x1)] [.long ((mJ m 2 6))] (m, S) (some (.int r0)) (mf, S)
      refine rsn 2 (t := (29, [(0, .ref 2), (1, .ref x1)], [.int ((lg_cmp ((mJ m 2 6)) 1818326117))])) rfl ?_
      by_cases c8 : ((mJ m 2 6)) = 1818326117
      · rw [if_pos c8] at h
        refine rjf (a := (54, [(0, .ref 2), (1, .ref x1)], [])) (b := (32, [(0, .ref 2), (1, .ref x1)], [])) rfl rfl (fun q => q (lgc_eq.mpr c8)) ?_
        exact rsub [(0, .ref 2), (1, .ref x1)] ⟨rfl, ⟨rfl, trivial⟩⟩ ⟨rfl, ⟨rfl, trivial⟩⟩ (jp32 () h)
      · rw [if_neg c8] at h
        refine rjt (a := (54, [(0, .ref 2), (1, .ref x1)], [])) (b := (32, [(0, .ref 2), (1, .ref x1)], [])) rfl rfl (fun q => c8 (lgc_eq.mp q)) ?_
        refine rsn 1 (t := (55, [(0, .ref 2), (1, .ref x1)], [.ref 2])) rfl ?_
        refine pgJ rfl rfl rfl (hSh.1.k 2 rfl _) ?_
        show RN xs L al (Ev xs L al d) 25 58 [(0, .ref 2), (1, .ref x1)] [.long ((mJ m 2 6))] (m, S) (some (.int r0)) (mf, S)
        refine rsn 2 (t := (62, [(0, .ref 2), (1, .ref x1)], [.int ((lg_cmp ((mJ m 2 6)) 6578553))])) rfl ?_
        by_cases c9 : ((mJ m 2 6)) = 6578553
        · rw [if_pos c9] at h
          refine rjf (a := (71, [(0, .ref 2), (1, .ref x1)], [])) (b := (65, [(0, .ref 2), (1, .ref x1)], [])) rfl rfl (fun q => q (lgc_eq.mpr c9)) ?_
          refine rsn 2 (t := (67, [(0, .ref 2), (1, .ref x1)], [.ref x1, .ref 2])) rfl ?_
          obtain ⟨r16, m16, g16, h⟩ := b2_some h
          refine rcV 33 2 [.ref x1] rfl rfl rfl (hSh.1.k 2 rfl _) (Nat.le_of_ble_eq_true rfl) rfl (e_Reader_readDay N (by omega) hSh hx1 g16) ?_
          show RN xs L al (Ev xs L al d) 25 70 [(0, .ref 2), (1, .ref x1)] [.int r16] (m16, S) (some (.int r0)) (mf, S)
          obtain ⟨c17, h⟩ := ck_some h
          obtain ⟨h, h2⟩ := Prod.mk.inj (Option.some.inj h)
          subst h
          subst h2
          exact rret rfl ⟨rfl, rfl, _, _, rfl, rfl, rfl, nz_of c17⟩
        · rw [if_neg c9] at h
          refine rjt (a := (71, [(0, .ref 2), (1, .ref x1)], [])) (b := (65, [(0, .ref 2), (1, .ref x1)], [])) rfl rfl (fun q => c9 (lgc_eq.mp q)) ?_
          refine rsn 1 (t := (72, [(0, .ref 2), (1, .ref x1)], [.ref 2])) rfl ?_
          refine pgJ rfl rfl rfl (hSh.1.k 2 rfl _) ?_
          show RN xs L al (Ev xs L al d) 25 75 [(0, .ref 2), (1, .ref x1)] [.long ((mJ m 2 6))] (m, S) (some (.int r0)) (mf, S)
          refine rsn 2 (t := (79, [(0, .ref 2), (1, .ref x1)], [.int ((lg_cmp ((mJ m 2 6)) 1752132708))])) rfl ?_
          by_cases c10 : ((mJ m 2 6)) = 1752132708
          · rw [if_pos c10] at h
            refine rjf (a := (88, [(0, .ref 2), (1, .ref x1)], [])) (b := (82, [(0, .ref 2), (1, .ref x1)], [])) rfl rfl (fun q => q (lgc_eq.mpr c10)) ?_
            refine rsn 2 (t := (84, [(0, .ref 2), (1, .ref x1)], [.ref x1, .ref 2])) rfl ?_
            obtain ⟨r14, m14, g14, h⟩ := b2_some h
            refine rcV 39 2 [.ref x1] rfl rfl rfl (hSh.1.k 2 rfl _) (Nat.le_of_ble_eq_true rfl) rfl (e_Reader_readHold N (by omega) hSh hx1 g14) ?_
            show RN xs L al (Ev xs L al d) 25 87 [(0, .ref 2), (1, .ref x1)] [.int r14] (m14, S) (some (.int r0)) (mf, S)
            obtain ⟨c15, h⟩ := ck_some h
            obtain ⟨h, h2⟩ := Prod.mk.inj (Option.some.inj h)
            subst h
            subst h2
            exact rret rfl ⟨rfl, rfl, _, _, rfl, rfl, rfl, nz_of c15⟩
          · rw [if_neg c10] at h
            refine rjt (a := (88, [(0, .ref 2), (1, .ref x1)], [])) (b := (82, [(0, .ref 2), (1, .ref x1)], [])) rfl rfl (fun q => c10 (lgc_eq.mp q)) ?_
            refine rsn 1 (t := (89, [(0, .ref 2), (1, .ref x1)], [.ref 2])) rfl ?_
            refine pgJ rfl rfl rfl (hSh.1.k 2 rfl _) ?_
            show RN xs L al (Ev xs L al d) 25 92 [(0, .ref 2), (1, .ref x1)] [.long ((mJ m 2 6))] (m, S) (some (.int r0)) (mf, S)
            refine rsn 2 (t := (96, [(0, .ref 2), (1, .ref x1)], [.int ((lg_cmp ((mJ m 2 6)) 1650549611))])) rfl ?_
            by_cases c11 : ((mJ m 2 6)) = 1650549611
            · rw [if_pos c11] at h
              refine rjf (a := (111, [(0, .ref 2), (1, .ref x1)], [])) (b := (99, [(0, .ref 2), (1, .ref x1)], [])) rfl rfl (fun q => q (lgc_eq.mpr c11)) ?_
              refine rsn 2 (t := (101, [(0, .ref 2), (1, .ref x1)], [.ref x1, .ref 2])) rfl ?_
              obtain ⟨r12, m12, g12, h⟩ := b2_some h
              refine rcV 41 2 [.ref x1] rfl rfl rfl (hSh.1.k 2 rfl _) (Nat.le_of_ble_eq_true rfl) rfl (e_Reader_readBack N (by omega) hSh hx1 g12) ?_
              show RN xs L al (Ev xs L al d) 25 104 [(0, .ref 2), (1, .ref x1)] [.int r12] (m12, S) (some (.int r0)) (mf, S)
              by_cases c13 : r12 = 0
              · rw [if_pos c13] at h
                refine rjt (a := (111, [(0, .ref 2), (1, .ref x1)], [])) (b := (107, [(0, .ref 2), (1, .ref x1)], [])) rfl rfl c13 ?_
                refine rsn 1 (t := (112, [(0, .ref 2), (1, .ref x1)], [.int 0])) rfl ?_
                obtain ⟨h, h2⟩ := Prod.mk.inj (Option.some.inj h)
                subst h
                subst h2
                exact rret rfl ⟨rfl, rfl, _, _, rfl, rfl, rfl, rfl⟩
              · rw [if_neg c13] at h
                refine rjf (a := (111, [(0, .ref 2), (1, .ref x1)], [])) (b := (107, [(0, .ref 2), (1, .ref x1)], [])) rfl rfl c13 ?_
                refine rsn 2 (t := (112, [(0, .ref 2), (1, .ref x1)], [.int 1])) rfl ?_
                obtain ⟨h, h2⟩ := Prod.mk.inj (Option.some.inj h)
                subst h
                subst h2
                exact rret rfl ⟨rfl, rfl, _, _, rfl, rfl, rfl, rfl⟩
            · rw [if_neg c11] at h
              refine rjt (a := (111, [(0, .ref 2), (1, .ref x1)], [])) (b := (99, [(0, .ref 2), (1, .ref x1)], [])) rfl rfl (fun q => c11 (lgc_eq.mp q)) ?_
              refine rsn 1 (t := (112, [(0, .ref 2), (1, .ref x1)], [.int 0])) rfl ?_
              obtain ⟨h, h2⟩ := Prod.mk.inj (Option.some.inj h)
              subst h
              subst h2
              exact rret rfl ⟨rfl, rfl, _, _, rfl, rfl, rfl, rfl⟩
  · rw [if_neg c1] at h
    refine rjf (a := (10, [(0, .ref 2), (1, .ref x1)], [])) (b := (8, [(0, .ref 2), (1, .ref x1)], [])) rfl rfl c1 ?_
    refine rsn 1 (t := (9, [(0, .ref 2), (1, .ref x1)], [.int 0])) rfl ?_
    obtain ⟨h, h2⟩ := Prod.mk.inj (Option.some.inj h)
    subst h
    subst h2
    exact rret rfl ⟨rfl, rfl, _, _, rfl, rfl, rfl, rfl⟩
def f_Reader_read_L28 (N : Nat) (S : St) (x2 : Nat) (k28 : Int32 → Mm → Option (Int32 × Mm)) : Nat → Int32 → Mm → Option (Int32 × Mm)
  | 0, _, _ => none
  | n28 + 1, x3, m => (if ((mI m 2 1)) < x3 then k28 x3 m else (if ((mI m 2 3)) = 0 then b1 (f_Will_early N S x2 m) fun r7 => (if r7 = 0 then some ((mI m 2 4), m) else some ((-1), m)) else b2 (f_Reader_readPart N S x2 m) fun r5 m5 => (if r5 = 0 then some ((mI m5 2 4), m5) else f_Reader_read_L28 N S x2 k28 n28 ((x3 + 1)) m5)))
def f_Reader_read (N : Nat) (S : St) (x1 : Int32) (x2 : Nat) (m : Mm) : Option (Int32 × Mm) := b3 (f_Will_clear N S x2 (vI (vI m 2 1 ((if ((Int32.ofNat 400)) < x1 then ((Int32.ofNat 400)) else x1))) 2 2 0)) fun m1 => b3 (f_Reader_step N S m1) fun m2 => f_Reader_read_L28 N S x2 (fun (z9_3 : Int32) (m9 : Mm) => some ((mI m9 2 4), m9)) N 0 m2
set_option maxRecDepth 20000 in
set_option maxHeartbeats 4000000 in
theorem e_Reader_read {xs : Nat → Int32} {L : Nat} {al : Bool} (N : Nat) {d : Nat} (hd : 7 ≤ d) {S : St} (hSh : ShC S) {x1 : Int32} {x2 : Nat} (hx2 : x2 ∈ wKl) {m : Mm} {r0 : Int32} {mf : Mm} (h : f_Reader_read N S x1 x2 m = some (r0, mf)) : Ev xs L al d 17 [.ref 2, .int x1, .ref x2] (m, S) (some (.int r0)) (mf, S) := by
  obtain ⟨d, rfl⟩ : ∃ e, d = e + 1 := ⟨d - 1, by omega⟩
  refine ev_of (by decide) (Nat.le_of_ble_eq_true rfl) ?_
  rw [f_Reader_read] at h
  show RN xs L al (Ev xs L al d) 17 0 [(0, .ref 2), (1, .int x1), (2, .ref x2)] [] (m, S) (some (.int r0)) (mf, S)
  refine rsn 3 (t := (3, [(0, .ref 2), (1, .int x1), (2, .ref x2)], [.ref 2, .int x1, .ref 2])) rfl ?_
  refine rgR rfl rfl rfl (hSh.1.k 2 rfl _) (hSh.1.r 93 rfl _) ?_
  refine rxL rfl (hSh.1.k 1 rfl _) (by decide) (hSh.1.l 0 rfl _) ?_
  show RN xs L al (Ev xs L al d) 17 7 [(0, .ref 2), (1, .int x1), (2, .ref x2)] [.int ((Int32.ofNat 400)), .int x1, .ref 2] (m, S) (some (.int r0)) (mf, S)
  refine rm (st1 := [.int ((if ((Int32.ofNat 400)) < x1 then ((Int32.ofNat 400)) else x1)), .ref 2]) rfl ⟨rfl, rfl, 2, [.ref 2], rfl, Nat.le_of_ble_eq_true rfl, Or.inr (Or.inr (Or.inl ⟨rfl, _, _, rfl, rfl⟩))⟩ ?_
  refine ppI rfl rfl rfl rfl (hSh.1.k 2 rfl _) ?_
  refine rsn 2 (t := (15, [(0, .ref 2), (1, .int x1), (2, .ref x2)], [.int 0, .ref 2])) rfl ?_
  refine ppI rfl rfl rfl rfl (hSh.1.k 2 rfl _) ?_
  refine rsn 1 (t := (19, [(0, .ref 2), (1, .int x1), (2, .ref x2)], [.ref x2])) rfl ?_
  obtain ⟨m1, g1, h⟩ := b3_some h
  refine rcV 18 x2 [] rfl rfl rfl (hSh.kW hx2 _) (Nat.le_of_ble_eq_true rfl) rfl (e_Will_clear N (by omega) hSh hx2 g1) ?_
  show RN xs L al (Ev xs L al d) 17 22 [(0, .ref 2), (1, .int x1), (2, .ref x2)] [] (m1, S) (some (.int r0)) (mf, S)
  refine rsn 1 (t := (23, [(0, .ref 2), (1, .int x1), (2, .ref x2)], [.ref 2])) rfl ?_
  obtain ⟨m2, g2, h⟩ := b3_some h
  refine rcV 19 2 [] rfl rfl rfl (hSh.1.k 2 rfl _) (Nat.le_of_ble_eq_true rfl) rfl (e_Reader_step N (by omega) hSh g2) ?_
  show RN xs L al (Ev xs L al d) 17 26 [(0, .ref 2), (1, .int x1), (2, .ref x2)] [] (m2, S) (some (.int r0)) (mf, S)
  refine rsn 2 (t := (28, [(3, .int 0), (0, .ref 2), (1, .int x1), (2, .ref x2)], [])) rfl ?_
  have ex28 : ∀ (z9_3 : Int32) (m9 : Mm), (some ((mI m9 2 4), m9)) = some (r0, mf) → RN xs L al (Ev xs L al d) 17 78 [(0, .ref 2)] [] (m9, S) (some (.int r0)) (mf, S) := by
    intro z9_3 m9 h
    try dsimp only at h
    refine rsn 1 (t := (79, [(0, .ref 2)], [.ref 2])) rfl ?_
    refine pgI rfl rfl rfl (hSh.1.k 2 rfl _) ?_
    show RN xs L al (Ev xs L al d) 17 82 [(0, .ref 2)] [.int ((mI m9 2 4))] (m9, S) (some (.int r0)) (mf, S)
    obtain ⟨h, h2⟩ := Prod.mk.inj (Option.some.inj h)
    subst h
    subst h2
    exact rret rfl ⟨rfl, rfl, _, _, rfl, rfl, rfl, rfl⟩
  have lp28 : ∀ (n : Nat) (y10_3 : Int32) (m10 : Mm), (f_Reader_read_L28 N S x2 (fun (z9_3 : Int32) (m9 : Mm) => some ((mI m9 2 4), m9)) n y10_3 m10) = some (r0, mf) → RN xs L al (Ev xs L al d) 17 28 [(0, .ref 2), (2, .ref x2), (3, .int y10_3)] [] (m10, S) (some (.int r0)) (mf, S) := by
    intro n
    induction n with
    | zero => intro y10_3 m10 h; exact absurd h (by simp [f_Reader_read_L28])
    | succ n28 ih28 =>
      intro y10_3 m10 h
      try dsimp only at h
      rw [f_Reader_read_L28] at h
      try dsimp only at h
      refine rsn 2 (t := (30, [(0, .ref 2), (2, .ref x2), (3, .int y10_3)], [.ref 2, .int y10_3])) rfl ?_
      refine pgI rfl rfl rfl (hSh.1.k 2 rfl _) ?_
      show RN xs L al (Ev xs L al d) 17 33 [(0, .ref 2), (2, .ref x2), (3, .int y10_3)] [.int ((mI m10 2 1)), .int y10_3] (m10, S) (some (.int r0)) (mf, S)
      by_cases c11 : ((mI m10 2 1)) < y10_3
      · rw [if_pos c11] at h
        refine rjt (a := (78, [(0, .ref 2), (2, .ref x2), (3, .int y10_3)], [])) (b := (36, [(0, .ref 2), (2, .ref x2), (3, .int y10_3)], [])) rfl rfl c11 ?_
        exact rsub [(0, .ref 2)] ⟨rfl, trivial⟩ ⟨rfl, trivial⟩ (ex28 y10_3 m10 h)
      · rw [if_neg c11] at h
        refine rjf (a := (78, [(0, .ref 2), (2, .ref x2), (3, .int y10_3)], [])) (b := (36, [(0, .ref 2), (2, .ref x2), (3, .int y10_3)], [])) rfl rfl c11 ?_
        refine rsn 1 (t := (37, [(0, .ref 2), (2, .ref x2), (3, .int y10_3)], [.ref 2])) rfl ?_
        refine pgI rfl rfl rfl (hSh.1.k 2 rfl _) ?_
        show RN xs L al (Ev xs L al d) 17 40 [(0, .ref 2), (2, .ref x2), (3, .int y10_3)] [.int ((mI m10 2 3))] (m10, S) (some (.int r0)) (mf, S)
        by_cases c12 : ((mI m10 2 3)) = 0
        · rw [if_pos c12] at h
          refine rjf (a := (59, [(0, .ref 2), (2, .ref x2), (3, .int y10_3)], [])) (b := (43, [(0, .ref 2), (2, .ref x2), (3, .int y10_3)], [])) rfl rfl (fun q => q c12) ?_
          refine rsn 1 (t := (44, [(0, .ref 2), (2, .ref x2), (3, .int y10_3)], [.ref x2])) rfl ?_
          obtain ⟨r15, g15, h⟩ := b1_some h
          refine rcV 24 x2 [] rfl rfl rfl (hSh.kW hx2 _) (Nat.le_of_ble_eq_true rfl) rfl (e_Will_early N (by omega) hSh hx2 g15) ?_
          show RN xs L al (Ev xs L al d) 17 47 [(0, .ref 2), (2, .ref x2), (3, .int y10_3)] [.int r15] (m10, S) (some (.int r0)) (mf, S)
          by_cases c16 : r15 = 0
          · rw [if_pos c16] at h
            refine rjf (a := (57, [(0, .ref 2), (2, .ref x2), (3, .int y10_3)], [])) (b := (50, [(0, .ref 2), (2, .ref x2), (3, .int y10_3)], [])) rfl rfl (fun q => q c16) ?_
            refine rsn 1 (t := (51, [(0, .ref 2), (2, .ref x2), (3, .int y10_3)], [.ref 2])) rfl ?_
            refine pgI rfl rfl rfl (hSh.1.k 2 rfl _) ?_
            show RN xs L al (Ev xs L al d) 17 54 [(0, .ref 2), (2, .ref x2), (3, .int y10_3)] [.int ((mI m10 2 4))] (m10, S) (some (.int r0)) (mf, S)
            refine rsn 1 (t := (58, [(0, .ref 2), (2, .ref x2), (3, .int y10_3)], [.int ((mI m10 2 4))])) rfl ?_
            obtain ⟨h, h2⟩ := Prod.mk.inj (Option.some.inj h)
            subst h
            subst h2
            exact rret rfl ⟨rfl, rfl, _, _, rfl, rfl, rfl, rfl⟩
          · rw [if_neg c16] at h
            refine rjt (a := (57, [(0, .ref 2), (2, .ref x2), (3, .int y10_3)], [])) (b := (50, [(0, .ref 2), (2, .ref x2), (3, .int y10_3)], [])) rfl rfl c16 ?_
            refine rsn 1 (t := (58, [(0, .ref 2), (2, .ref x2), (3, .int y10_3)], [.int ((-1))])) rfl ?_
            obtain ⟨h, h2⟩ := Prod.mk.inj (Option.some.inj h)
            subst h
            subst h2
            exact rret rfl ⟨rfl, rfl, _, _, rfl, rfl, rfl, rfl⟩
        · rw [if_neg c12] at h
          refine rjt (a := (59, [(0, .ref 2), (2, .ref x2), (3, .int y10_3)], [])) (b := (43, [(0, .ref 2), (2, .ref x2), (3, .int y10_3)], [])) rfl rfl c12 ?_
          refine rsn 2 (t := (61, [(0, .ref 2), (2, .ref x2), (3, .int y10_3)], [.ref x2, .ref 2])) rfl ?_
          obtain ⟨r13, m13, g13, h⟩ := b2_some h
          refine rcV 25 2 [.ref x2] rfl rfl rfl (hSh.1.k 2 rfl _) (Nat.le_of_ble_eq_true rfl) rfl (e_Reader_readPart N (by omega) hSh hx2 g13) ?_
          show RN xs L al (Ev xs L al d) 17 64 [(0, .ref 2), (2, .ref x2), (3, .int y10_3)] [.int r13] (m13, S) (some (.int r0)) (mf, S)
          by_cases c14 : r13 = 0
          · rw [if_pos c14] at h
            refine rjf (a := (72, [(0, .ref 2), (2, .ref x2), (3, .int y10_3)], [])) (b := (67, [(0, .ref 2), (2, .ref x2), (3, .int y10_3)], [])) rfl rfl (fun q => q c14) ?_
            refine rsn 1 (t := (68, [(0, .ref 2), (2, .ref x2), (3, .int y10_3)], [.ref 2])) rfl ?_
            refine pgI rfl rfl rfl (hSh.1.k 2 rfl _) ?_
            show RN xs L al (Ev xs L al d) 17 71 [(0, .ref 2), (2, .ref x2), (3, .int y10_3)] [.int ((mI m13 2 4))] (m13, S) (some (.int r0)) (mf, S)
            obtain ⟨h, h2⟩ := Prod.mk.inj (Option.some.inj h)
            subst h
            subst h2
            exact rret rfl ⟨rfl, rfl, _, _, rfl, rfl, rfl, rfl⟩
          · rw [if_neg c14] at h
            refine rjt (a := (72, [(0, .ref 2), (2, .ref x2), (3, .int y10_3)], [])) (b := (67, [(0, .ref 2), (2, .ref x2), (3, .int y10_3)], [])) rfl rfl c14 ?_
            refine rsn 2 (t := (28, [(3, .int ((y10_3 + 1))), (0, .ref 2), (2, .ref x2)], [])) rfl ?_
            exact rsub [(0, .ref 2), (2, .ref x2), (3, .int ((y10_3 + 1)))] ⟨rfl, ⟨rfl, ⟨rfl, trivial⟩⟩⟩ ⟨rfl, ⟨rfl, ⟨rfl, trivial⟩⟩⟩ (ih28 ((y10_3 + 1)) m13 h)
  exact rsub [(0, .ref 2), (2, .ref x2), (3, .int 0)] ⟨rfl, ⟨rfl, ⟨rfl, trivial⟩⟩⟩ ⟨rfl, ⟨rfl, ⟨rfl, trivial⟩⟩⟩ (lp28 N 0 m2 h)
def f_SC_fault (N : Nat) (S : St) (m : Mm) : Option (Int32 × Mm) := b2 (f_Reader_read N S ((mI m 0 1)) 3 m) fun r1 m1 => some (r1, m1)
set_option maxRecDepth 20000 in
set_option maxHeartbeats 4000000 in
theorem e_SC_fault {xs : Nat → Int32} {L : Nat} {al : Bool} (N : Nat) {d : Nat} (hd : 8 ≤ d) {S : St} (hSh : ShC S) {m : Mm} {r0 : Int32} {mf : Mm} (h : f_SC_fault N S m = some (r0, mf)) : Ev xs L al d 16 [.ref 0] (m, S) (some (.int r0)) (mf, S) := by
  obtain ⟨d, rfl⟩ : ∃ e, d = e + 1 := ⟨d - 1, by omega⟩
  refine ev_of (by decide) (Nat.le_of_ble_eq_true rfl) ?_
  rw [f_SC_fault] at h
  show RN xs L al (Ev xs L al d) 16 0 [(0, .ref 0)] [] (m, S) (some (.int r0)) (mf, S)
  refine rsn 1 (t := (1, [(0, .ref 0)], [.ref 0])) rfl ?_
  refine rgR rfl rfl rfl (hSh.1.k 0 rfl _) (hSh.1.r 86 rfl _) ?_
  refine rsn 1 (t := (5, [(0, .ref 0)], [.ref 0, .ref 2])) rfl ?_
  refine pgI rfl rfl rfl (hSh.1.k 0 rfl _) ?_
  show RN xs L al (Ev xs L al d) 16 8 [(0, .ref 0)] [.int ((mI m 0 1)), .ref 2] (m, S) (some (.int r0)) (mf, S)
  refine rsn 1 (t := (9, [(0, .ref 0)], [.ref 0, .int ((mI m 0 1)), .ref 2])) rfl ?_
  refine rgR rfl rfl rfl (hSh.1.k 0 rfl _) (hSh.1.r 87 rfl _) ?_
  obtain ⟨r1, m1, g1, h⟩ := b2_some h
  refine rcV 17 2 [.int ((mI m 0 1)), .ref 3] rfl rfl rfl (hSh.1.k 2 rfl _) (Nat.le_of_ble_eq_true rfl) rfl (e_Reader_read N (by omega) hSh (by decide) g1) ?_
  show RN xs L al (Ev xs L al d) 16 15 [(0, .ref 0)] [.int r1] (m1, S) (some (.int r0)) (mf, S)
  obtain ⟨h, h2⟩ := Prod.mk.inj (Option.some.inj h)
  subst h
  subst h2
  exact rret rfl ⟨rfl, rfl, _, _, rfl, rfl, rfl, rfl⟩
def f_Will_firstState (N : Nat) (S : St) (x0 : Nat) (m : Mm) : Option (Int64) := b1 (f_Will_early N S x0 m) fun r1 => some ((lsl r1.toInt64 36))
set_option maxRecDepth 20000 in
set_option maxHeartbeats 4000000 in
theorem e_Will_firstState {xs : Nat → Int32} {L : Nat} {al : Bool} (N : Nat) {d : Nat} (hd : 2 ≤ d) {S : St} (hSh : ShC S) {x0 : Nat} (hx0 : x0 ∈ wKl) {m : Mm} {r0 : Int64} (h : f_Will_firstState N S x0 m = some r0) : Ev xs L al d 43 [.ref x0] (m, S) (some (.long r0)) (m, S) := by
  obtain ⟨d, rfl⟩ : ∃ e, d = e + 1 := ⟨d - 1, by omega⟩
  refine ev_of (by decide) (Nat.le_of_ble_eq_true rfl) ?_
  rw [f_Will_firstState] at h
  show RN xs L al (Ev xs L al d) 43 0 [(0, .ref x0)] [] (m, S) (some (.long r0)) (m, S)
  refine rsn 1 (t := (1, [(0, .ref x0)], [.ref x0])) rfl ?_
  obtain ⟨r1, g1, h⟩ := b1_some h
  refine rcV 24 x0 [] rfl rfl rfl (hSh.kW hx0 _) (Nat.le_of_ble_eq_true rfl) rfl (e_Will_early N (by omega) hSh hx0 g1) ?_
  show RN xs L al (Ev xs L al d) 43 4 [(0, .ref x0)] [.int r1] (m, S) (some (.long r0)) (m, S)
  refine rsn 2 (t := (7, [(0, .ref x0)], [.int 36, .long r1.toInt64])) rfl ?_
  refine rsn 1 (t := (8, [(0, .ref x0)], [.long ((lsl r1.toInt64 36))])) rfl ?_
  have h := Option.some.inj h
  subst h
  exact rret rfl ⟨rfl, rfl, _, rfl, rfl, rfl⟩
def f_Ranks_maskOf_L7 (N : Nat) (S : St) (x0 : Nat) (x1 : Int32) (m : Mm) (k7 : Int32 → Int32 → Int32 → Option (Int32)) : Nat → Int32 → Int32 → Int32 → Option (Int32)
  | 0, _, _, _ => none
  | n7 + 1, x2, x3, x4 => (if ((mI m x0 0)) ≤ x4 then k7 x2 x3 x4 else b1 (f_Will_isLate N S x0 x4 m) fun r2 => (if r2 = 0 then f_Ranks_maskOf_L7 N S x0 x1 m k7 n7 x2 x3 ((x4 + 1)) else (jn (fun (s4 : Int32) => f_Ranks_maskOf_L7 N S x0 x1 m k7 n7 ((x2 ||| s4)) ((isl x3 1)) ((x4 + 1))) (fun j41 => if ((((isr x1 x4)) &&& 1)) = 1 then j41 x3 else j41 0))))
def f_Ranks_maskOf (N : Nat) (S : St) (x0 : Nat) (x1 : Int32) (m : Mm) : Option (Int32) := f_Ranks_maskOf_L7 N S x0 x1 m (fun (z6_2 : Int32) (z6_3 : Int32) (z6_4 : Int32) => some z6_2) N 0 1 0
set_option maxRecDepth 20000 in
set_option maxHeartbeats 4000000 in
theorem e_Ranks_maskOf {xs : Nat → Int32} {L : Nat} {al : Bool} (N : Nat) {d : Nat} (hd : 2 ≤ d) {S : St} (hSh : ShC S) {x0 : Nat} {x1 : Int32} (hx0 : x0 ∈ wKl) {m : Mm} {r0 : Int32} (h : f_Ranks_maskOf N S x0 x1 m = some r0) : Ev xs L al d 46 [.ref x0, .int x1] (m, S) (some (.int r0)) (m, S) := by
  obtain ⟨d, rfl⟩ : ∃ e, d = e + 1 := ⟨d - 1, by omega⟩
  refine ev_of (by decide) (Nat.le_of_ble_eq_true rfl) ?_
  rw [f_Ranks_maskOf] at h
  show RN xs L al (Ev xs L al d) 46 0 [(0, .ref x0), (1, .int x1)] [] (m, S) (some (.int r0)) (m, S)
  refine rsn 6 (t := (7, [(4, .int 0), (3, .int 1), (2, .int 0), (0, .ref x0), (1, .int x1)], [])) rfl ?_
  have ex7 : ∀ (z6_2 : Int32) (z6_3 : Int32) (z6_4 : Int32), (some z6_2) = some r0 → RN xs L al (Ev xs L al d) 46 53 [(2, .int z6_2)] [] (m, S) (some (.int r0)) (m, S) := by
    intro z6_2 z6_3 z6_4 h
    try dsimp only at h
    refine rsn 1 (t := (54, [(2, .int z6_2)], [.int z6_2])) rfl ?_
    have h := Option.some.inj h
    subst h
    exact rret rfl ⟨rfl, rfl, _, _, rfl, rfl, rfl, rfl⟩
  have lp7 : ∀ (n : Nat) (y7_2 : Int32) (y7_3 : Int32) (y7_4 : Int32), (f_Ranks_maskOf_L7 N S x0 x1 m (fun (z6_2 : Int32) (z6_3 : Int32) (z6_4 : Int32) => some z6_2) n y7_2 y7_3 y7_4) = some r0 → RN xs L al (Ev xs L al d) 46 7 [(0, .ref x0), (1, .int x1), (2, .int y7_2), (3, .int y7_3), (4, .int y7_4)] [] (m, S) (some (.int r0)) (m, S) := by
    intro n
    induction n with
    | zero => intro y7_2 y7_3 y7_4 h; exact absurd h (by simp [f_Ranks_maskOf_L7])
    | succ n7 ih7 =>
      intro y7_2 y7_3 y7_4 h
      try dsimp only at h
      rw [f_Ranks_maskOf_L7] at h
      try dsimp only at h
      refine rsn 2 (t := (10, [(0, .ref x0), (1, .int x1), (2, .int y7_2), (3, .int y7_3), (4, .int y7_4)], [.ref x0, .int y7_4])) rfl ?_
      refine pgI rfl rfl rfl (hSh.kW hx0 _) ?_
      show RN xs L al (Ev xs L al d) 46 13 [(0, .ref x0), (1, .int x1), (2, .int y7_2), (3, .int y7_3), (4, .int y7_4)] [.int ((mI m x0 0)), .int y7_4] (m, S) (some (.int r0)) (m, S)
      by_cases c8 : ((mI m x0 0)) ≤ y7_4
      · rw [if_pos c8] at h
        refine rjt (a := (53, [(0, .ref x0), (1, .int x1), (2, .int y7_2), (3, .int y7_3), (4, .int y7_4)], [])) (b := (16, [(0, .ref x0), (1, .int x1), (2, .int y7_2), (3, .int y7_3), (4, .int y7_4)], [])) rfl rfl c8 ?_
        exact rsub [(2, .int y7_2)] ⟨rfl, trivial⟩ ⟨rfl, trivial⟩ (ex7 y7_2 y7_3 y7_4 h)
      · rw [if_neg c8] at h
        refine rjf (a := (53, [(0, .ref x0), (1, .int x1), (2, .int y7_2), (3, .int y7_3), (4, .int y7_4)], [])) (b := (16, [(0, .ref x0), (1, .int x1), (2, .int y7_2), (3, .int y7_3), (4, .int y7_4)], [])) rfl rfl c8 ?_
        refine rsn 2 (t := (19, [(0, .ref x0), (1, .int x1), (2, .int y7_2), (3, .int y7_3), (4, .int y7_4)], [.int y7_4, .ref x0])) rfl ?_
        obtain ⟨r9, g9, h⟩ := b1_some h
        refine rcV 36 x0 [.int y7_4] rfl rfl rfl (hSh.kW hx0 _) (Nat.le_of_ble_eq_true rfl) rfl (e_Will_isLate N (by omega) hSh hx0 g9) ?_
        show RN xs L al (Ev xs L al d) 46 22 [(0, .ref x0), (1, .int x1), (2, .int y7_2), (3, .int y7_3), (4, .int y7_4)] [.int r9] (m, S) (some (.int r0)) (m, S)
        by_cases c10 : r9 = 0
        · rw [if_pos c10] at h
          refine rjt (a := (47, [(0, .ref x0), (1, .int x1), (2, .int y7_2), (3, .int y7_3), (4, .int y7_4)], [])) (b := (25, [(0, .ref x0), (1, .int x1), (2, .int y7_2), (3, .int y7_3), (4, .int y7_4)], [])) rfl rfl c10 ?_
          refine rsn 2 (t := (7, [(4, .int ((y7_4 + 1))), (0, .ref x0), (1, .int x1), (2, .int y7_2), (3, .int y7_3)], [])) rfl ?_
          exact rsub [(0, .ref x0), (1, .int x1), (2, .int y7_2), (3, .int y7_3), (4, .int ((y7_4 + 1)))] ⟨rfl, ⟨rfl, ⟨rfl, ⟨rfl, ⟨rfl, trivial⟩⟩⟩⟩⟩ ⟨rfl, ⟨rfl, ⟨rfl, ⟨rfl, ⟨rfl, trivial⟩⟩⟩⟩⟩ (ih7 y7_2 y7_3 ((y7_4 + 1)) h)
        · rw [if_neg c10] at h
          refine rjf (a := (47, [(0, .ref x0), (1, .int x1), (2, .int y7_2), (3, .int y7_3), (4, .int y7_4)], [])) (b := (25, [(0, .ref x0), (1, .int x1), (2, .int y7_2), (3, .int y7_3), (4, .int y7_4)], [])) rfl rfl c10 ?_
          refine rsn 7 (t := (33, [(0, .ref x0), (1, .int x1), (2, .int y7_2), (3, .int y7_3), (4, .int y7_4)], [.int 1, .int ((((isr x1 y7_4)) &&& 1)), .int y7_2])) rfl ?_
          have jp41 : ∀ (s11 : Int32), (f_Ranks_maskOf_L7 N S x0 x1 m (fun (z6_2 : Int32) (z6_3 : Int32) (z6_4 : Int32) => some z6_2) n7 ((y7_2 ||| s11)) ((isl y7_3 1)) ((y7_4 + 1))) = some r0 → RN xs L al (Ev xs L al d) 46 41 [(0, .ref x0), (1, .int x1), (3, .int y7_3), (4, .int y7_4)] [.int s11, .int y7_2] (m, S) (some (.int r0)) (m, S) := by
            intro s11 h
            try dsimp only at h
            refine rsn 8 (t := (7, [(4, .int ((y7_4 + 1))), (3, .int ((isl y7_3 1))), (2, .int ((y7_2 ||| s11))), (0, .ref x0), (1, .int x1)], [])) rfl ?_
            exact rsub [(0, .ref x0), (1, .int x1), (2, .int ((y7_2 ||| s11))), (3, .int ((isl y7_3 1))), (4, .int ((y7_4 + 1)))] ⟨rfl, ⟨rfl, ⟨rfl, ⟨rfl, ⟨rfl, trivial⟩⟩⟩⟩⟩ ⟨rfl, ⟨rfl, ⟨rfl, ⟨rfl, ⟨rfl, trivial⟩⟩⟩⟩⟩ (ih7 ((y7_2 ||| s11)) ((isl y7_3 1)) ((y7_4 + 1)) h)
          rw [jn] at h
          try dsimp only at h
          by_cases c12 : ((((isr x1 y7_4)) &&& 1)) = 1
          · rw [if_pos c12] at h
            refine rjf (a := (40, [(0, .ref x0), (1, .int x1), (2, .int y7_2), (3, .int y7_3), (4, .int y7_4)], [.int y7_2])) (b := (36, [(0, .ref x0), (1, .int x1), (2, .int y7_2), (3, .int y7_3), (4, .int y7_4)], [.int y7_2])) rfl rfl (fun q => q c12) ?_
            refine rsn 2 (t := (41, [(0, .ref x0), (1, .int x1), (2, .int y7_2), (3, .int y7_3), (4, .int y7_4)], [.int y7_3, .int y7_2])) rfl ?_
            exact rsub [(0, .ref x0), (1, .int x1), (3, .int y7_3), (4, .int y7_4)] ⟨rfl, ⟨rfl, ⟨rfl, ⟨rfl, trivial⟩⟩⟩⟩ ⟨rfl, ⟨rfl, ⟨rfl, ⟨rfl, trivial⟩⟩⟩⟩ (jp41 y7_3 h)
          · rw [if_neg c12] at h
            refine rjt (a := (40, [(0, .ref x0), (1, .int x1), (2, .int y7_2), (3, .int y7_3), (4, .int y7_4)], [.int y7_2])) (b := (36, [(0, .ref x0), (1, .int x1), (2, .int y7_2), (3, .int y7_3), (4, .int y7_4)], [.int y7_2])) rfl rfl c12 ?_
            refine rsn 1 (t := (41, [(0, .ref x0), (1, .int x1), (2, .int y7_2), (3, .int y7_3), (4, .int y7_4)], [.int 0, .int y7_2])) rfl ?_
            exact rsub [(0, .ref x0), (1, .int x1), (3, .int y7_3), (4, .int y7_4)] ⟨rfl, ⟨rfl, ⟨rfl, ⟨rfl, trivial⟩⟩⟩⟩ ⟨rfl, ⟨rfl, ⟨rfl, ⟨rfl, trivial⟩⟩⟩⟩ (jp41 0 h)
  exact rsub [(0, .ref x0), (1, .int x1), (2, .int 0), (3, .int 1), (4, .int 0)] ⟨rfl, ⟨rfl, ⟨rfl, ⟨rfl, ⟨rfl, trivial⟩⟩⟩⟩⟩ ⟨rfl, ⟨rfl, ⟨rfl, ⟨rfl, ⟨rfl, trivial⟩⟩⟩⟩⟩ (lp7 N 0 1 0 h)
def f_Will_alts (N : Nat) (S : St) (x0 : Nat) (x1 : Int32) (m : Mm) : Option (Int32) := (if x1 < 0 then some 0 else (if ((mI m x0 1)) ≤ x1 then some 0 else ck (ix x1 6) (some ((mX m ((x0 + 3)) x1.toNatClampNeg)))))
set_option maxRecDepth 20000 in
set_option maxHeartbeats 4000000 in
theorem e_Will_alts {xs : Nat → Int32} {L : Nat} {al : Bool} (N : Nat) {d : Nat} (hd : 1 ≤ d) {S : St} (hSh : ShC S) {x0 : Nat} {x1 : Int32} (hx0 : x0 ∈ wKl) {m : Mm} {r0 : Int32} (h : f_Will_alts N S x0 x1 m = some r0) : Ev xs L al d 48 [.ref x0, .int x1] (m, S) (some (.int r0)) (m, S) := by
  obtain ⟨d, rfl⟩ : ∃ e, d = e + 1 := ⟨d - 1, by omega⟩
  refine ev_of (by decide) (Nat.le_of_ble_eq_true rfl) ?_
  rw [f_Will_alts] at h
  show RN xs L al (Ev xs L al d) 48 0 [(0, .ref x0), (1, .int x1)] [] (m, S) (some (.int r0)) (m, S)
  refine rsn 1 (t := (1, [(0, .ref x0), (1, .int x1)], [.int x1])) rfl ?_
  by_cases c1 : x1 < 0
  · rw [if_pos c1] at h
    refine rjt (a := (21, [(0, .ref x0), (1, .int x1)], [])) (b := (4, [(0, .ref x0), (1, .int x1)], [])) rfl rfl c1 ?_
    refine rsn 1 (t := (22, [(0, .ref x0), (1, .int x1)], [.int 0])) rfl ?_
    have h := Option.some.inj h
    subst h
    exact rret rfl ⟨rfl, rfl, _, _, rfl, rfl, rfl, rfl⟩
  · rw [if_neg c1] at h
    refine rjf (a := (21, [(0, .ref x0), (1, .int x1)], [])) (b := (4, [(0, .ref x0), (1, .int x1)], [])) rfl rfl c1 ?_
    refine rsn 2 (t := (6, [(0, .ref x0), (1, .int x1)], [.ref x0, .int x1])) rfl ?_
    refine pgI rfl rfl rfl (hSh.kW hx0 _) ?_
    show RN xs L al (Ev xs L al d) 48 9 [(0, .ref x0), (1, .int x1)] [.int ((mI m x0 1)), .int x1] (m, S) (some (.int r0)) (m, S)
    by_cases c2 : ((mI m x0 1)) ≤ x1
    · rw [if_pos c2] at h
      refine rjt (a := (21, [(0, .ref x0), (1, .int x1)], [])) (b := (12, [(0, .ref x0), (1, .int x1)], [])) rfl rfl c2 ?_
      refine rsn 1 (t := (22, [(0, .ref x0), (1, .int x1)], [.int 0])) rfl ?_
      have h := Option.some.inj h
      subst h
      exact rret rfl ⟨rfl, rfl, _, _, rfl, rfl, rfl, rfl⟩
    · rw [if_neg c2] at h
      refine rjf (a := (21, [(0, .ref x0), (1, .int x1)], [])) (b := (12, [(0, .ref x0), (1, .int x1)], [])) rfl rfl c2 ?_
      refine rsn 1 (t := (13, [(0, .ref x0), (1, .int x1)], [.ref x0])) rfl ?_
      refine rgR rfl rfl rfl (hSh.kW hx0 _) (hSh.rWa3 hx0 _) ?_
      refine rsn 1 (t := (17, [(0, .ref x0), (1, .int x1)], [.int x1, .ref ((x0 + 3))])) rfl ?_
      obtain ⟨c3, h⟩ := ck_some h
      refine pxI rfl (hSh.kWa3 hx0 _) (hSh.lWa3 hx0 _) c3 ?_
      show RN xs L al (Ev xs L al d) 48 18 [(0, .ref x0), (1, .int x1)] [.int ((mX m ((x0 + 3)) x1.toNatClampNeg))] (m, S) (some (.int r0)) (m, S)
      refine rsn 1 (t := (22, [(0, .ref x0), (1, .int x1)], [.int ((mX m ((x0 + 3)) x1.toNatClampNeg))])) rfl ?_
      have h := Option.some.inj h
      subst h
      exact rret rfl ⟨rfl, rfl, _, _, rfl, rfl, rfl, rfl⟩
def f_Will_isAlt (N : Nat) (S : St) (x0 : Nat) (x1 : Int32) (x2 : Int32) (m : Mm) : Option (Int32) := (if x1 < 0 then some 0 else (if ((mI m x0 1)) ≤ x1 then some 0 else (if x2 < 0 then some 0 else ck (ix x1 6) ((if ((mX m ((x0 + 3)) x1.toNatClampNeg)) ≤ x2 then some 0 else some 1)))))
set_option maxRecDepth 20000 in
set_option maxHeartbeats 4000000 in
theorem e_Will_isAlt {xs : Nat → Int32} {L : Nat} {al : Bool} (N : Nat) {d : Nat} (hd : 1 ≤ d) {S : St} (hSh : ShC S) {x0 : Nat} {x1 : Int32} {x2 : Int32} (hx0 : x0 ∈ wKl) {m : Mm} {r0 : Int32} (h : f_Will_isAlt N S x0 x1 x2 m = some r0) : Ev xs L al d 50 [.ref x0, .int x1, .int x2] (m, S) (some (.int r0)) (m, S) := by
  obtain ⟨d, rfl⟩ : ∃ e, d = e + 1 := ⟨d - 1, by omega⟩
  refine ev_of (by decide) (Nat.le_of_ble_eq_true rfl) ?_
  rw [f_Will_isAlt] at h
  show RN xs L al (Ev xs L al d) 50 0 [(0, .ref x0), (1, .int x1), (2, .int x2)] [] (m, S) (some (.int r0)) (m, S)
  refine rsn 1 (t := (1, [(0, .ref x0), (1, .int x1), (2, .int x2)], [.int x1])) rfl ?_
  by_cases c1 : x1 < 0
  · rw [if_pos c1] at h
    refine rjt (a := (30, [(0, .ref x0), (1, .int x1), (2, .int x2)], [])) (b := (4, [(0, .ref x0), (1, .int x1), (2, .int x2)], [])) rfl rfl c1 ?_
    refine rsn 1 (t := (31, [(0, .ref x0), (1, .int x1), (2, .int x2)], [.int 0])) rfl ?_
    have h := Option.some.inj h
    subst h
    exact rret rfl ⟨rfl, rfl, _, _, rfl, rfl, rfl, rfl⟩
  · rw [if_neg c1] at h
    refine rjf (a := (30, [(0, .ref x0), (1, .int x1), (2, .int x2)], [])) (b := (4, [(0, .ref x0), (1, .int x1), (2, .int x2)], [])) rfl rfl c1 ?_
    refine rsn 2 (t := (6, [(0, .ref x0), (1, .int x1), (2, .int x2)], [.ref x0, .int x1])) rfl ?_
    refine pgI rfl rfl rfl (hSh.kW hx0 _) ?_
    show RN xs L al (Ev xs L al d) 50 9 [(0, .ref x0), (1, .int x1), (2, .int x2)] [.int ((mI m x0 1)), .int x1] (m, S) (some (.int r0)) (m, S)
    by_cases c2 : ((mI m x0 1)) ≤ x1
    · rw [if_pos c2] at h
      refine rjt (a := (30, [(0, .ref x0), (1, .int x1), (2, .int x2)], [])) (b := (12, [(0, .ref x0), (1, .int x1), (2, .int x2)], [])) rfl rfl c2 ?_
      refine rsn 1 (t := (31, [(0, .ref x0), (1, .int x1), (2, .int x2)], [.int 0])) rfl ?_
      have h := Option.some.inj h
      subst h
      exact rret rfl ⟨rfl, rfl, _, _, rfl, rfl, rfl, rfl⟩
    · rw [if_neg c2] at h
      refine rjf (a := (30, [(0, .ref x0), (1, .int x1), (2, .int x2)], [])) (b := (12, [(0, .ref x0), (1, .int x1), (2, .int x2)], [])) rfl rfl c2 ?_
      refine rsn 1 (t := (13, [(0, .ref x0), (1, .int x1), (2, .int x2)], [.int x2])) rfl ?_
      by_cases c3 : x2 < 0
      · rw [if_pos c3] at h
        refine rjt (a := (30, [(0, .ref x0), (1, .int x1), (2, .int x2)], [])) (b := (16, [(0, .ref x0), (1, .int x1), (2, .int x2)], [])) rfl rfl c3 ?_
        refine rsn 1 (t := (31, [(0, .ref x0), (1, .int x1), (2, .int x2)], [.int 0])) rfl ?_
        have h := Option.some.inj h
        subst h
        exact rret rfl ⟨rfl, rfl, _, _, rfl, rfl, rfl, rfl⟩
      · rw [if_neg c3] at h
        refine rjf (a := (30, [(0, .ref x0), (1, .int x1), (2, .int x2)], [])) (b := (16, [(0, .ref x0), (1, .int x1), (2, .int x2)], [])) rfl rfl c3 ?_
        refine rsn 2 (t := (18, [(0, .ref x0), (1, .int x1), (2, .int x2)], [.ref x0, .int x2])) rfl ?_
        refine rgR rfl rfl rfl (hSh.kW hx0 _) (hSh.rWa3 hx0 _) ?_
        refine rsn 1 (t := (22, [(0, .ref x0), (1, .int x1), (2, .int x2)], [.int x1, .ref ((x0 + 3)), .int x2])) rfl ?_
        obtain ⟨c4, h⟩ := ck_some h
        refine pxI rfl (hSh.kWa3 hx0 _) (hSh.lWa3 hx0 _) c4 ?_
        show RN xs L al (Ev xs L al d) 50 23 [(0, .ref x0), (1, .int x1), (2, .int x2)] [.int ((mX m ((x0 + 3)) x1.toNatClampNeg)), .int x2] (m, S) (some (.int r0)) (m, S)
        by_cases c5 : ((mX m ((x0 + 3)) x1.toNatClampNeg)) ≤ x2
        · rw [if_pos c5] at h
          refine rjt (a := (30, [(0, .ref x0), (1, .int x1), (2, .int x2)], [])) (b := (26, [(0, .ref x0), (1, .int x1), (2, .int x2)], [])) rfl rfl c5 ?_
          refine rsn 1 (t := (31, [(0, .ref x0), (1, .int x1), (2, .int x2)], [.int 0])) rfl ?_
          have h := Option.some.inj h
          subst h
          exact rret rfl ⟨rfl, rfl, _, _, rfl, rfl, rfl, rfl⟩
        · rw [if_neg c5] at h
          refine rjf (a := (30, [(0, .ref x0), (1, .int x1), (2, .int x2)], [])) (b := (26, [(0, .ref x0), (1, .int x1), (2, .int x2)], [])) rfl rfl c5 ?_
          refine rsn 2 (t := (31, [(0, .ref x0), (1, .int x1), (2, .int x2)], [.int 1])) rfl ?_
          have h := Option.some.inj h
          subst h
          exact rret rfl ⟨rfl, rfl, _, _, rfl, rfl, rfl, rfl⟩
def f_Will_kind (N : Nat) (S : St) (x0 : Nat) (x1 : Int32) (x2 : Int32) (m : Mm) : Option (Int32) := b1 (f_Will_isAlt N S x0 x1 x2 m) fun r1 => (if r1 = 0 then some 2 else ck (ix ((((x1 * 3)) + x2)) 18) (some ((mX m ((x0 + 5)) (((((x1 * 3)) + x2)).toNatClampNeg)))))
set_option maxRecDepth 20000 in
set_option maxHeartbeats 4000000 in
theorem e_Will_kind {xs : Nat → Int32} {L : Nat} {al : Bool} (N : Nat) {d : Nat} (hd : 2 ≤ d) {S : St} (hSh : ShC S) {x0 : Nat} {x1 : Int32} {x2 : Int32} (hx0 : x0 ∈ wKl) {m : Mm} {r0 : Int32} (h : f_Will_kind N S x0 x1 x2 m = some r0) : Ev xs L al d 49 [.ref x0, .int x1, .int x2] (m, S) (some (.int r0)) (m, S) := by
  obtain ⟨d, rfl⟩ : ∃ e, d = e + 1 := ⟨d - 1, by omega⟩
  refine ev_of (by decide) (Nat.le_of_ble_eq_true rfl) ?_
  rw [f_Will_kind] at h
  show RN xs L al (Ev xs L al d) 49 0 [(0, .ref x0), (1, .int x1), (2, .int x2)] [] (m, S) (some (.int r0)) (m, S)
  refine rsn 3 (t := (3, [(0, .ref x0), (1, .int x1), (2, .int x2)], [.int x2, .int x1, .ref x0])) rfl ?_
  obtain ⟨r1, g1, h⟩ := b1_some h
  refine rcV 50 x0 [.int x1, .int x2] rfl rfl rfl (hSh.kW hx0 _) (Nat.le_of_ble_eq_true rfl) rfl (e_Will_isAlt N (by omega) hSh hx0 g1) ?_
  show RN xs L al (Ev xs L al d) 49 6 [(0, .ref x0), (1, .int x1), (2, .int x2)] [.int r1] (m, S) (some (.int r0)) (m, S)
  by_cases c2 : r1 = 0
  · rw [if_pos c2] at h
    refine rjt (a := (22, [(0, .ref x0), (1, .int x1), (2, .int x2)], [])) (b := (9, [(0, .ref x0), (1, .int x1), (2, .int x2)], [])) rfl rfl c2 ?_
    refine rsn 1 (t := (23, [(0, .ref x0), (1, .int x1), (2, .int x2)], [.int 2])) rfl ?_
    have h := Option.some.inj h
    subst h
    exact rret rfl ⟨rfl, rfl, _, _, rfl, rfl, rfl, rfl⟩
  · rw [if_neg c2] at h
    refine rjf (a := (22, [(0, .ref x0), (1, .int x1), (2, .int x2)], [])) (b := (9, [(0, .ref x0), (1, .int x1), (2, .int x2)], [])) rfl rfl c2 ?_
    refine rsn 1 (t := (10, [(0, .ref x0), (1, .int x1), (2, .int x2)], [.ref x0])) rfl ?_
    refine rgR rfl rfl rfl (hSh.kW hx0 _) (hSh.rWa5 hx0 _) ?_
    refine rsn 5 (t := (18, [(0, .ref x0), (1, .int x1), (2, .int x2)], [.int ((((x1 * 3)) + x2)), .ref ((x0 + 5))])) rfl ?_
    obtain ⟨c3, h⟩ := ck_some h
    refine pxI rfl (hSh.kWa5 hx0 _) (hSh.lWa5 hx0 _) c3 ?_
    show RN xs L al (Ev xs L al d) 49 19 [(0, .ref x0), (1, .int x1), (2, .int x2)] [.int ((mX m ((x0 + 5)) (((((x1 * 3)) + x2)).toNatClampNeg)))] (m, S) (some (.int r0)) (m, S)
    refine rsn 1 (t := (23, [(0, .ref x0), (1, .int x1), (2, .int x2)], [.int ((mX m ((x0 + 5)) (((((x1 * 3)) + x2)).toNatClampNeg)))])) rfl ?_
    have h := Option.some.inj h
    subst h
    exact rret rfl ⟨rfl, rfl, _, _, rfl, rfl, rfl, rfl⟩
def f_Will_mayBringThing_L2 (N : Nat) (S : St) (x0 : Nat) (x1 : Int32) (m : Mm) (k2 : Int32 → Option (Int32)) : Nat → Int32 → Option (Int32)
  | 0, _ => none
  | n2 + 1, x2 => b1 (f_Will_alts N S x0 x1 m) fun r1 => (if r1 ≤ x2 then k2 x2 else b1 (f_Will_kind N S x0 x1 x2 m) fun r3 => (if r3 = 0 then some 1 else f_Will_mayBringThing_L2 N S x0 x1 m k2 n2 ((x2 + 1))))
def f_Will_mayBringThing (N : Nat) (S : St) (x0 : Nat) (x1 : Int32) (m : Mm) : Option (Int32) := f_Will_mayBringThing_L2 N S x0 x1 m (fun (z5_2 : Int32) => some 0) N 0
set_option maxRecDepth 20000 in
set_option maxHeartbeats 4000000 in
theorem e_Will_mayBringThing {xs : Nat → Int32} {L : Nat} {al : Bool} (N : Nat) {d : Nat} (hd : 3 ≤ d) {S : St} (hSh : ShC S) {x0 : Nat} {x1 : Int32} (hx0 : x0 ∈ wKl) {m : Mm} {r0 : Int32} (h : f_Will_mayBringThing N S x0 x1 m = some r0) : Ev xs L al d 47 [.ref x0, .int x1] (m, S) (some (.int r0)) (m, S) := by
  obtain ⟨d, rfl⟩ : ∃ e, d = e + 1 := ⟨d - 1, by omega⟩
  refine ev_of (by decide) (Nat.le_of_ble_eq_true rfl) ?_
  rw [f_Will_mayBringThing] at h
  show RN xs L al (Ev xs L al d) 47 0 [(0, .ref x0), (1, .int x1)] [] (m, S) (some (.int r0)) (m, S)
  refine rsn 2 (t := (2, [(2, .int 0), (0, .ref x0), (1, .int x1)], [])) rfl ?_
  have ex2 : ∀ (z5_2 : Int32), (some 0) = some r0 → RN xs L al (Ev xs L al d) 47 28 [] [] (m, S) (some (.int r0)) (m, S) := by
    intro z5_2 h
    try dsimp only at h
    refine rsn 1 (t := (29, [], [.int 0])) rfl ?_
    have h := Option.some.inj h
    subst h
    exact rret rfl ⟨rfl, rfl, _, _, rfl, rfl, rfl, rfl⟩
  have lp2 : ∀ (n : Nat) (y6_2 : Int32), (f_Will_mayBringThing_L2 N S x0 x1 m (fun (z5_2 : Int32) => some 0) n y6_2) = some r0 → RN xs L al (Ev xs L al d) 47 2 [(0, .ref x0), (1, .int x1), (2, .int y6_2)] [] (m, S) (some (.int r0)) (m, S) := by
    intro n
    induction n with
    | zero => intro y6_2 h; exact absurd h (by simp [f_Will_mayBringThing_L2])
    | succ n2 ih2 =>
      intro y6_2 h
      try dsimp only at h
      rw [f_Will_mayBringThing_L2] at h
      try dsimp only at h
      refine rsn 3 (t := (5, [(0, .ref x0), (1, .int x1), (2, .int y6_2)], [.int x1, .ref x0, .int y6_2])) rfl ?_
      obtain ⟨r7, g7, h⟩ := b1_some h
      refine rcV 48 x0 [.int x1] rfl rfl rfl (hSh.kW hx0 _) (Nat.le_of_ble_eq_true rfl) rfl (e_Will_alts N (by omega) hSh hx0 g7) ?_
      show RN xs L al (Ev xs L al d) 47 8 [(0, .ref x0), (1, .int x1), (2, .int y6_2)] [.int r7, .int y6_2] (m, S) (some (.int r0)) (m, S)
      by_cases c8 : r7 ≤ y6_2
      · rw [if_pos c8] at h
        refine rjt (a := (28, [(0, .ref x0), (1, .int x1), (2, .int y6_2)], [])) (b := (11, [(0, .ref x0), (1, .int x1), (2, .int y6_2)], [])) rfl rfl c8 ?_
        exact rsub [] trivial trivial (ex2 y6_2 h)
      · rw [if_neg c8] at h
        refine rjf (a := (28, [(0, .ref x0), (1, .int x1), (2, .int y6_2)], [])) (b := (11, [(0, .ref x0), (1, .int x1), (2, .int y6_2)], [])) rfl rfl c8 ?_
        refine rsn 3 (t := (14, [(0, .ref x0), (1, .int x1), (2, .int y6_2)], [.int y6_2, .int x1, .ref x0])) rfl ?_
        obtain ⟨r9, g9, h⟩ := b1_some h
        refine rcV 49 x0 [.int x1, .int y6_2] rfl rfl rfl (hSh.kW hx0 _) (Nat.le_of_ble_eq_true rfl) rfl (e_Will_kind N (by omega) hSh hx0 g9) ?_
        show RN xs L al (Ev xs L al d) 47 17 [(0, .ref x0), (1, .int x1), (2, .int y6_2)] [.int r9] (m, S) (some (.int r0)) (m, S)
        by_cases c10 : r9 = 0
        · rw [if_pos c10] at h
          refine rjf (a := (22, [(0, .ref x0), (1, .int x1), (2, .int y6_2)], [])) (b := (20, [(0, .ref x0), (1, .int x1), (2, .int y6_2)], [])) rfl rfl (fun q => q c10) ?_
          refine rsn 1 (t := (21, [(0, .ref x0), (1, .int x1), (2, .int y6_2)], [.int 1])) rfl ?_
          have h := Option.some.inj h
          subst h
          exact rret rfl ⟨rfl, rfl, _, _, rfl, rfl, rfl, rfl⟩
        · rw [if_neg c10] at h
          refine rjt (a := (22, [(0, .ref x0), (1, .int x1), (2, .int y6_2)], [])) (b := (20, [(0, .ref x0), (1, .int x1), (2, .int y6_2)], [])) rfl rfl c10 ?_
          refine rsn 2 (t := (2, [(2, .int ((y6_2 + 1))), (0, .ref x0), (1, .int x1)], [])) rfl ?_
          exact rsub [(0, .ref x0), (1, .int x1), (2, .int ((y6_2 + 1)))] ⟨rfl, ⟨rfl, ⟨rfl, trivial⟩⟩⟩ ⟨rfl, ⟨rfl, ⟨rfl, trivial⟩⟩⟩ (ih2 ((y6_2 + 1)) h)
  exact rsub [(0, .ref x0), (1, .int x1), (2, .int 0)] ⟨rfl, ⟨rfl, ⟨rfl, trivial⟩⟩⟩ ⟨rfl, ⟨rfl, ⟨rfl, trivial⟩⟩⟩ (lp2 N 0 h)
def f_Ranks_layOut_L20 (N : Nat) (S : St) (x1 : Nat) (k20 : Int32 → Mm → Option (Mm)) : Nat → Int32 → Mm → Option (Mm)
  | 0, _, _ => none
  | n20 + 1, x2, m => (if 8 ≤ x2 then k20 x2 m else b1 (f_Ranks_maskOf N S x1 x2 m) fun r2 => ck (ix x2 8) (b1 (f_Will_early N S x1 (vX m 27 x2.toNatClampNeg r2)) fun r4 => b1 (f_Will_early N S x1 (vX m 27 x2.toNatClampNeg r2)) fun r5 => (if ((x2 &&& r4)) = r5 then (if ((isl 1 ((mI m x1 0)))) ≤ x2 then f_Ranks_layOut_L20 N S x1 k20 n20 ((x2 + 1)) ((vX m 27 x2.toNatClampNeg r2)) else ck (ix x2 8) (ck (ix ((mX (vX m 27 x2.toNatClampNeg r2) 27 x2.toNatClampNeg)) 8) (ck (ix x2 8) (f_Ranks_layOut_L20 N S x1 k20 n20 ((x2 + 1)) ((vI (vX (vX m 27 x2.toNatClampNeg r2) 28 (((mX (vX m 27 x2.toNatClampNeg r2) 27 x2.toNatClampNeg)).toNatClampNeg) x2) 18 10 ((if ((mI m 18 10)) < ((((mX (vX m 27 x2.toNatClampNeg r2) 27 x2.toNatClampNeg)) + 1)) then ((((mX (vX m 27 x2.toNatClampNeg r2) 27 x2.toNatClampNeg)) + 1)) else ((mI m 18 10)))))))))) else f_Ranks_layOut_L20 N S x1 k20 n20 ((x2 + 1)) ((vX m 27 x2.toNatClampNeg r2)))))
def f_Ranks_layOut_L104 (N : Nat) (S : St) (x1 : Nat) (k104 : Int32 → Int32 → Int32 → Mm → Option (Mm)) : Nat → Int32 → Int32 → Int32 → Mm → Option (Mm)
  | 0, _, _, _, _ => none
  | n104 + 1, x2, x3, x4, m => (if ((mI m 18 11)) < x4 then k104 x2 x3 x4 m else ck (ix x4 7) (ck (ix x4 8) (ck (ix x2 7) ((if ((mI m 18 11)) ≤ x4 then f_Ranks_layOut_L104 N S x1 k104 n104 x2 ((x3 + ((mX m 24 x2.toNatClampNeg)))) ((x4 + 1)) ((vX (vX m 25 x4.toNatClampNeg x2) 26 x4.toNatClampNeg x3)) else b1 (f_Will_mayBringThing N S x1 x4 (vX (vX m 25 x4.toNatClampNeg x2) 26 x4.toNatClampNeg x3)) fun r17 => (if r17 = 0 then f_Ranks_layOut_L104 N S x1 k104 n104 x2 ((x3 + ((mX m 24 x2.toNatClampNeg)))) ((x4 + 1)) ((vX (vX m 25 x4.toNatClampNeg x2) 26 x4.toNatClampNeg x3)) else (if 6 ≤ x2 then f_Ranks_layOut_L104 N S x1 k104 n104 x2 ((x3 + ((mX m 24 x2.toNatClampNeg)))) ((x4 + 1)) ((vX (vX m 25 x4.toNatClampNeg x2) 26 x4.toNatClampNeg x3)) else f_Ranks_layOut_L104 N S x1 k104 n104 ((x2 + 1)) ((x3 + ((mX m 24 x2.toNatClampNeg)))) ((x4 + 1)) ((vX (vX m 25 x4.toNatClampNeg x2) 26 x4.toNatClampNeg x3)))))))))
def f_Ranks_layOut (N : Nat) (S : St) (x1 : Nat) (m : Mm) : Option (Mm) := f_Ranks_layOut_L20 N S x1 (fun (z11_2 : Int32) (m11 : Mm) => f_Ranks_layOut_L104 N S x1 (fun (z20_2 : Int32) (z20_3 : Int32) (z20_4 : Int32) (m20 : Mm) => ck (ix ((((mI m20 18 11)) + 1)) 8) (some (vX m20 26 (((((mI m20 18 11)) + 1)).toNatClampNeg) z20_3))) N 0 0 0 m11) N 0 (vI (vI m 18 11 ((if 6 < ((mI m x1 1)) then 6 else ((mI m x1 1))))) 18 10 1)
set_option maxRecDepth 20000 in
set_option maxHeartbeats 4000000 in
theorem e_Ranks_layOut {xs : Nat → Int32} {L : Nat} {al : Bool} (N : Nat) {d : Nat} (hd : 4 ≤ d) {S : St} (hSh : ShC S) {x1 : Nat} (hx1 : x1 ∈ wKl) {m : Mm} {mf : Mm} (h : f_Ranks_layOut N S x1 m = some mf) : Ev xs L al d 45 [.ref 18, .ref x1] (m, S) none (mf, S) := by
  obtain ⟨d, rfl⟩ : ∃ e, d = e + 1 := ⟨d - 1, by omega⟩
  refine ev_of (by decide) (Nat.le_of_ble_eq_true rfl) ?_
  rw [f_Ranks_layOut] at h
  show RN xs L al (Ev xs L al d) 45 0 [(0, .ref 18), (1, .ref x1)] [] (m, S) none (mf, S)
  refine rsn 2 (t := (2, [(0, .ref 18), (1, .ref x1)], [.ref x1, .ref 18])) rfl ?_
  refine pgI rfl rfl rfl (hSh.kW hx1 _) ?_
  show RN xs L al (Ev xs L al d) 45 5 [(0, .ref 18), (1, .ref x1)] [.int ((mI m x1 1)), .ref 18] (m, S) none (mf, S)
  refine rsn 1 (t := (7, [(0, .ref 18), (1, .ref x1)], [.int 6, .int ((mI m x1 1)), .ref 18])) rfl ?_
  refine rm (st1 := [.int ((if 6 < ((mI m x1 1)) then 6 else ((mI m x1 1)))), .ref 18]) rfl ⟨rfl, rfl, 2, [.ref 18], rfl, Nat.le_of_ble_eq_true rfl, Or.inr (Or.inr (Or.inl ⟨rfl, _, _, rfl, rfl⟩))⟩ ?_
  refine ppI rfl rfl rfl rfl (hSh.1.k 18 rfl _) ?_
  refine rsn 2 (t := (15, [(0, .ref 18), (1, .ref x1)], [.int 1, .ref 18])) rfl ?_
  refine ppI rfl rfl rfl rfl (hSh.1.k 18 rfl _) ?_
  refine rsn 2 (t := (20, [(2, .int 0), (0, .ref 18), (1, .ref x1)], [])) rfl ?_
  have ex20 : ∀ (z11_2 : Int32) (m11 : Mm), (f_Ranks_layOut_L104 N S x1 (fun (z20_2 : Int32) (z20_3 : Int32) (z20_4 : Int32) (m20 : Mm) => ck (ix ((((mI m20 18 11)) + 1)) 8) (some (vX m20 26 (((((mI m20 18 11)) + 1)).toNatClampNeg) z20_3))) N 0 0 0 m11) = some mf → RN xs L al (Ev xs L al d) 45 97 [(0, .ref 18), (1, .ref x1)] [] (m11, S) none (mf, S) := by
    intro z11_2 m11 h
    try dsimp only at h
    refine rsn 6 (t := (104, [(4, .int 0), (3, .int 0), (2, .int 0), (0, .ref 18), (1, .ref x1)], [])) rfl ?_
    have ex104 : ∀ (z20_2 : Int32) (z20_3 : Int32) (z20_4 : Int32) (m20 : Mm), (ck (ix ((((mI m20 18 11)) + 1)) 8) (some (vX m20 26 (((((mI m20 18 11)) + 1)).toNatClampNeg) z20_3))) = some mf → RN xs L al (Ev xs L al d) 45 171 [(0, .ref 18), (3, .int z20_3)] [] (m20, S) none (mf, S) := by
      intro z20_2 z20_3 z20_4 m20 h
      try dsimp only at h
      refine rsn 1 (t := (172, [(0, .ref 18), (3, .int z20_3)], [.ref 18])) rfl ?_
      refine rgR rfl rfl rfl (hSh.1.k 18 rfl _) (hSh.1.r 19 rfl _) ?_
      refine rsn 1 (t := (176, [(0, .ref 18), (3, .int z20_3)], [.ref 18, .ref 26])) rfl ?_
      refine pgI rfl rfl rfl (hSh.1.k 18 rfl _) ?_
      show RN xs L al (Ev xs L al d) 45 179 [(0, .ref 18), (3, .int z20_3)] [.int ((mI m20 18 11)), .ref 26] (m20, S) none (mf, S)
      refine rsn 3 (t := (182, [(0, .ref 18), (3, .int z20_3)], [.int z20_3, .int ((((mI m20 18 11)) + 1)), .ref 26])) rfl ?_
      obtain ⟨c21, h⟩ := ck_some h
      refine psI rfl (hSh.1.k 26 rfl _) (hSh.1.l 20 rfl _) c21 ?_
      have h := Option.some.inj h
      subst h
      exact rret rfl ⟨rfl, rfl, rfl, rfl, rfl⟩
    have lp104 : ∀ (n : Nat) (y22_2 : Int32) (y22_3 : Int32) (y22_4 : Int32) (m22 : Mm), (f_Ranks_layOut_L104 N S x1 (fun (z20_2 : Int32) (z20_3 : Int32) (z20_4 : Int32) (m20 : Mm) => ck (ix ((((mI m20 18 11)) + 1)) 8) (some (vX m20 26 (((((mI m20 18 11)) + 1)).toNatClampNeg) z20_3))) n y22_2 y22_3 y22_4 m22) = some mf → RN xs L al (Ev xs L al d) 45 104 [(0, .ref 18), (1, .ref x1), (2, .int y22_2), (3, .int y22_3), (4, .int y22_4)] [] (m22, S) none (mf, S) := by
      intro n
      induction n with
      | zero => intro y22_2 y22_3 y22_4 m22 h; exact absurd h (by simp [f_Ranks_layOut_L104])
      | succ n104 ih104 =>
        intro y22_2 y22_3 y22_4 m22 h
        try dsimp only at h
        rw [f_Ranks_layOut_L104] at h
        try dsimp only at h
        refine rsn 2 (t := (107, [(0, .ref 18), (1, .ref x1), (2, .int y22_2), (3, .int y22_3), (4, .int y22_4)], [.ref 18, .int y22_4])) rfl ?_
        refine pgI rfl rfl rfl (hSh.1.k 18 rfl _) ?_
        show RN xs L al (Ev xs L al d) 45 110 [(0, .ref 18), (1, .ref x1), (2, .int y22_2), (3, .int y22_3), (4, .int y22_4)] [.int ((mI m22 18 11)), .int y22_4] (m22, S) none (mf, S)
        by_cases c23 : ((mI m22 18 11)) < y22_4
        · rw [if_pos c23] at h
          refine rjt (a := (171, [(0, .ref 18), (1, .ref x1), (2, .int y22_2), (3, .int y22_3), (4, .int y22_4)], [])) (b := (113, [(0, .ref 18), (1, .ref x1), (2, .int y22_2), (3, .int y22_3), (4, .int y22_4)], [])) rfl rfl c23 ?_
          exact rsub [(0, .ref 18), (3, .int y22_3)] ⟨rfl, ⟨rfl, trivial⟩⟩ ⟨rfl, ⟨rfl, trivial⟩⟩ (ex104 y22_2 y22_3 y22_4 m22 h)
        · rw [if_neg c23] at h
          refine rjf (a := (171, [(0, .ref 18), (1, .ref x1), (2, .int y22_2), (3, .int y22_3), (4, .int y22_4)], [])) (b := (113, [(0, .ref 18), (1, .ref x1), (2, .int y22_2), (3, .int y22_3), (4, .int y22_4)], [])) rfl rfl c23 ?_
          refine rsn 1 (t := (114, [(0, .ref 18), (1, .ref x1), (2, .int y22_2), (3, .int y22_3), (4, .int y22_4)], [.ref 18])) rfl ?_
          refine rgR rfl rfl rfl (hSh.1.k 18 rfl _) (hSh.1.r 18 rfl _) ?_
          refine rsn 2 (t := (120, [(0, .ref 18), (1, .ref x1), (2, .int y22_2), (3, .int y22_3), (4, .int y22_4)], [.int y22_2, .int y22_4, .ref 25])) rfl ?_
          obtain ⟨c24, h⟩ := ck_some h
          refine psI rfl (hSh.1.k 25 rfl _) (hSh.1.l 19 rfl _) c24 ?_
          refine rsn 1 (t := (122, [(0, .ref 18), (1, .ref x1), (2, .int y22_2), (3, .int y22_3), (4, .int y22_4)], [.ref 18])) rfl ?_
          refine rgR rfl rfl rfl (hSh.1.k 18 rfl _) (hSh.1.r 19 rfl _) ?_
          refine rsn 2 (t := (128, [(0, .ref 18), (1, .ref x1), (2, .int y22_2), (3, .int y22_3), (4, .int y22_4)], [.int y22_3, .int y22_4, .ref 26])) rfl ?_
          obtain ⟨c25, h⟩ := ck_some h
          refine psI rfl (hSh.1.k 26 rfl _) (hSh.1.l 20 rfl _) c25 ?_
          refine rsn 2 (t := (131, [(0, .ref 18), (1, .ref x1), (2, .int y22_2), (3, .int y22_3), (4, .int y22_4)], [.ref 18, .int y22_3])) rfl ?_
          refine rgR rfl rfl rfl (hSh.1.k 18 rfl _) (hSh.1.r 17 rfl _) ?_
          refine rsn 1 (t := (135, [(0, .ref 18), (1, .ref x1), (2, .int y22_2), (3, .int y22_3), (4, .int y22_4)], [.int y22_2, .ref 24, .int y22_3])) rfl ?_
          obtain ⟨c26, h⟩ := ck_some h
          refine pxI rfl (hSh.1.k 24 rfl _) (hSh.1.l 18 rfl _) c26 ?_
          show RN xs L al (Ev xs L al d) 45 136 [(0, .ref 18), (1, .ref x1), (2, .int y22_2), (3, .int y22_3), (4, .int y22_4)] [.int ((mX m22 24 y22_2.toNatClampNeg)), .int y22_3] ((vX (vX m22 25 y22_4.toNatClampNeg y22_2) 26 y22_4.toNatClampNeg y22_3), S) none (mf, S)
          refine rsn 4 (t := (141, [(3, .int ((y22_3 + ((mX m22 24 y22_2.toNatClampNeg))))), (0, .ref 18), (1, .ref x1), (2, .int y22_2), (4, .int y22_4)], [.ref 18, .int y22_4])) rfl ?_
          refine pgI rfl rfl rfl (hSh.1.k 18 rfl _) ?_
          show RN xs L al (Ev xs L al d) 45 144 [(3, .int ((y22_3 + ((mX m22 24 y22_2.toNatClampNeg))))), (0, .ref 18), (1, .ref x1), (2, .int y22_2), (4, .int y22_4)] [.int ((mI m22 18 11)), .int y22_4] ((vX (vX m22 25 y22_4.toNatClampNeg y22_2) 26 y22_4.toNatClampNeg y22_3), S) none (mf, S)
          by_cases c27 : ((mI m22 18 11)) ≤ y22_4
          · rw [if_pos c27] at h
            refine rjt (a := (165, [(3, .int ((y22_3 + ((mX m22 24 y22_2.toNatClampNeg))))), (0, .ref 18), (1, .ref x1), (2, .int y22_2), (4, .int y22_4)], [])) (b := (147, [(3, .int ((y22_3 + ((mX m22 24 y22_2.toNatClampNeg))))), (0, .ref 18), (1, .ref x1), (2, .int y22_2), (4, .int y22_4)], [])) rfl rfl c27 ?_
            refine rsn 2 (t := (104, [(4, .int ((y22_4 + 1))), (3, .int ((y22_3 + ((mX m22 24 y22_2.toNatClampNeg))))), (0, .ref 18), (1, .ref x1), (2, .int y22_2)], [])) rfl ?_
            exact rsub [(0, .ref 18), (1, .ref x1), (2, .int y22_2), (3, .int ((y22_3 + ((mX m22 24 y22_2.toNatClampNeg))))), (4, .int ((y22_4 + 1)))] ⟨rfl, ⟨rfl, ⟨rfl, ⟨rfl, ⟨rfl, trivial⟩⟩⟩⟩⟩ ⟨rfl, ⟨rfl, ⟨rfl, ⟨rfl, ⟨rfl, trivial⟩⟩⟩⟩⟩ (ih104 y22_2 ((y22_3 + ((mX m22 24 y22_2.toNatClampNeg)))) ((y22_4 + 1)) ((vX (vX m22 25 y22_4.toNatClampNeg y22_2) 26 y22_4.toNatClampNeg y22_3)) h)
          · rw [if_neg c27] at h
            refine rjf (a := (165, [(3, .int ((y22_3 + ((mX m22 24 y22_2.toNatClampNeg))))), (0, .ref 18), (1, .ref x1), (2, .int y22_2), (4, .int y22_4)], [])) (b := (147, [(3, .int ((y22_3 + ((mX m22 24 y22_2.toNatClampNeg))))), (0, .ref 18), (1, .ref x1), (2, .int y22_2), (4, .int y22_4)], [])) rfl rfl c27 ?_
            refine rsn 2 (t := (150, [(3, .int ((y22_3 + ((mX m22 24 y22_2.toNatClampNeg))))), (0, .ref 18), (1, .ref x1), (2, .int y22_2), (4, .int y22_4)], [.int y22_4, .ref x1])) rfl ?_
            obtain ⟨r28, g28, h⟩ := b1_some h
            refine rcV 47 x1 [.int y22_4] rfl rfl rfl (hSh.kW hx1 _) (Nat.le_of_ble_eq_true rfl) rfl (e_Will_mayBringThing N (by omega) hSh hx1 g28) ?_
            show RN xs L al (Ev xs L al d) 45 153 [(3, .int ((y22_3 + ((mX m22 24 y22_2.toNatClampNeg))))), (0, .ref 18), (1, .ref x1), (2, .int y22_2), (4, .int y22_4)] [.int r28] ((vX (vX m22 25 y22_4.toNatClampNeg y22_2) 26 y22_4.toNatClampNeg y22_3), S) none (mf, S)
            by_cases c29 : r28 = 0
            · rw [if_pos c29] at h
              refine rjt (a := (165, [(3, .int ((y22_3 + ((mX m22 24 y22_2.toNatClampNeg))))), (0, .ref 18), (1, .ref x1), (2, .int y22_2), (4, .int y22_4)], [])) (b := (156, [(3, .int ((y22_3 + ((mX m22 24 y22_2.toNatClampNeg))))), (0, .ref 18), (1, .ref x1), (2, .int y22_2), (4, .int y22_4)], [])) rfl rfl c29 ?_
              refine rsn 2 (t := (104, [(4, .int ((y22_4 + 1))), (3, .int ((y22_3 + ((mX m22 24 y22_2.toNatClampNeg))))), (0, .ref 18), (1, .ref x1), (2, .int y22_2)], [])) rfl ?_
              exact rsub [(0, .ref 18), (1, .ref x1), (2, .int y22_2), (3, .int ((y22_3 + ((mX m22 24 y22_2.toNatClampNeg))))), (4, .int ((y22_4 + 1)))] ⟨rfl, ⟨rfl, ⟨rfl, ⟨rfl, ⟨rfl, trivial⟩⟩⟩⟩⟩ ⟨rfl, ⟨rfl, ⟨rfl, ⟨rfl, ⟨rfl, trivial⟩⟩⟩⟩⟩ (ih104 y22_2 ((y22_3 + ((mX m22 24 y22_2.toNatClampNeg)))) ((y22_4 + 1)) ((vX (vX m22 25 y22_4.toNatClampNeg y22_2) 26 y22_4.toNatClampNeg y22_3)) h)
            · rw [if_neg c29] at h
              refine rjf (a := (165, [(3, .int ((y22_3 + ((mX m22 24 y22_2.toNatClampNeg))))), (0, .ref 18), (1, .ref x1), (2, .int y22_2), (4, .int y22_4)], [])) (b := (156, [(3, .int ((y22_3 + ((mX m22 24 y22_2.toNatClampNeg))))), (0, .ref 18), (1, .ref x1), (2, .int y22_2), (4, .int y22_4)], [])) rfl rfl c29 ?_
              refine rsn 2 (t := (159, [(3, .int ((y22_3 + ((mX m22 24 y22_2.toNatClampNeg))))), (0, .ref 18), (1, .ref x1), (2, .int y22_2), (4, .int y22_4)], [.int 6, .int y22_2])) rfl ?_
              by_cases c30 : 6 ≤ y22_2
              · rw [if_pos c30] at h
                refine rjt (a := (165, [(3, .int ((y22_3 + ((mX m22 24 y22_2.toNatClampNeg))))), (0, .ref 18), (1, .ref x1), (2, .int y22_2), (4, .int y22_4)], [])) (b := (162, [(3, .int ((y22_3 + ((mX m22 24 y22_2.toNatClampNeg))))), (0, .ref 18), (1, .ref x1), (2, .int y22_2), (4, .int y22_4)], [])) rfl rfl c30 ?_
                refine rsn 2 (t := (104, [(4, .int ((y22_4 + 1))), (3, .int ((y22_3 + ((mX m22 24 y22_2.toNatClampNeg))))), (0, .ref 18), (1, .ref x1), (2, .int y22_2)], [])) rfl ?_
                exact rsub [(0, .ref 18), (1, .ref x1), (2, .int y22_2), (3, .int ((y22_3 + ((mX m22 24 y22_2.toNatClampNeg))))), (4, .int ((y22_4 + 1)))] ⟨rfl, ⟨rfl, ⟨rfl, ⟨rfl, ⟨rfl, trivial⟩⟩⟩⟩⟩ ⟨rfl, ⟨rfl, ⟨rfl, ⟨rfl, ⟨rfl, trivial⟩⟩⟩⟩⟩ (ih104 y22_2 ((y22_3 + ((mX m22 24 y22_2.toNatClampNeg)))) ((y22_4 + 1)) ((vX (vX m22 25 y22_4.toNatClampNeg y22_2) 26 y22_4.toNatClampNeg y22_3)) h)
              · rw [if_neg c30] at h
                refine rjf (a := (165, [(3, .int ((y22_3 + ((mX m22 24 y22_2.toNatClampNeg))))), (0, .ref 18), (1, .ref x1), (2, .int y22_2), (4, .int y22_4)], [])) (b := (162, [(3, .int ((y22_3 + ((mX m22 24 y22_2.toNatClampNeg))))), (0, .ref 18), (1, .ref x1), (2, .int y22_2), (4, .int y22_4)], [])) rfl rfl c30 ?_
                refine rsn 3 (t := (104, [(4, .int ((y22_4 + 1))), (2, .int ((y22_2 + 1))), (3, .int ((y22_3 + ((mX m22 24 y22_2.toNatClampNeg))))), (0, .ref 18), (1, .ref x1)], [])) rfl ?_
                exact rsub [(0, .ref 18), (1, .ref x1), (2, .int ((y22_2 + 1))), (3, .int ((y22_3 + ((mX m22 24 y22_2.toNatClampNeg))))), (4, .int ((y22_4 + 1)))] ⟨rfl, ⟨rfl, ⟨rfl, ⟨rfl, ⟨rfl, trivial⟩⟩⟩⟩⟩ ⟨rfl, ⟨rfl, ⟨rfl, ⟨rfl, ⟨rfl, trivial⟩⟩⟩⟩⟩ (ih104 ((y22_2 + 1)) ((y22_3 + ((mX m22 24 y22_2.toNatClampNeg)))) ((y22_4 + 1)) ((vX (vX m22 25 y22_4.toNatClampNeg y22_2) 26 y22_4.toNatClampNeg y22_3)) h)
    exact rsub [(0, .ref 18), (1, .ref x1), (2, .int 0), (3, .int 0), (4, .int 0)] ⟨rfl, ⟨rfl, ⟨rfl, ⟨rfl, ⟨rfl, trivial⟩⟩⟩⟩⟩ ⟨rfl, ⟨rfl, ⟨rfl, ⟨rfl, ⟨rfl, trivial⟩⟩⟩⟩⟩ (lp104 N 0 0 0 m11 h)
  have lp20 : ∀ (n : Nat) (y31_2 : Int32) (m31 : Mm), (f_Ranks_layOut_L20 N S x1 (fun (z11_2 : Int32) (m11 : Mm) => f_Ranks_layOut_L104 N S x1 (fun (z20_2 : Int32) (z20_3 : Int32) (z20_4 : Int32) (m20 : Mm) => ck (ix ((((mI m20 18 11)) + 1)) 8) (some (vX m20 26 (((((mI m20 18 11)) + 1)).toNatClampNeg) z20_3))) N 0 0 0 m11) n y31_2 m31) = some mf → RN xs L al (Ev xs L al d) 45 20 [(0, .ref 18), (1, .ref x1), (2, .int y31_2)] [] (m31, S) none (mf, S) := by
    intro n
    induction n with
    | zero => intro y31_2 m31 h; exact absurd h (by simp [f_Ranks_layOut_L20])
    | succ n20 ih20 =>
      intro y31_2 m31 h
      try dsimp only at h
      rw [f_Ranks_layOut_L20] at h
      try dsimp only at h
      refine rsn 2 (t := (23, [(0, .ref 18), (1, .ref x1), (2, .int y31_2)], [.int 8, .int y31_2])) rfl ?_
      by_cases c32 : 8 ≤ y31_2
      · rw [if_pos c32] at h
        refine rjt (a := (97, [(0, .ref 18), (1, .ref x1), (2, .int y31_2)], [])) (b := (26, [(0, .ref 18), (1, .ref x1), (2, .int y31_2)], [])) rfl rfl c32 ?_
        exact rsub [(0, .ref 18), (1, .ref x1)] ⟨rfl, ⟨rfl, trivial⟩⟩ ⟨rfl, ⟨rfl, trivial⟩⟩ (ex20 y31_2 m31 h)
      · rw [if_neg c32] at h
        refine rjf (a := (97, [(0, .ref 18), (1, .ref x1), (2, .int y31_2)], [])) (b := (26, [(0, .ref 18), (1, .ref x1), (2, .int y31_2)], [])) rfl rfl c32 ?_
        refine rsn 1 (t := (27, [(0, .ref 18), (1, .ref x1), (2, .int y31_2)], [.ref 18])) rfl ?_
        refine rgR rfl rfl rfl (hSh.1.k 18 rfl _) (hSh.1.r 20 rfl _) ?_
        refine rsn 3 (t := (33, [(0, .ref 18), (1, .ref x1), (2, .int y31_2)], [.int y31_2, .ref x1, .int y31_2, .ref 27])) rfl ?_
        obtain ⟨r33, g33, h⟩ := b1_some h
        refine rcS 46 [.ref x1, .int y31_2] rfl rfl rfl (Nat.le_of_ble_eq_true rfl) rfl (e_Ranks_maskOf N (by omega) hSh hx1 g33) ?_
        show RN xs L al (Ev xs L al d) 45 36 [(0, .ref 18), (1, .ref x1), (2, .int y31_2)] [.int r33, .int y31_2, .ref 27] (m31, S) none (mf, S)
        obtain ⟨c34, h⟩ := ck_some h
        refine psI rfl (hSh.1.k 27 rfl _) (hSh.1.l 21 rfl _) c34 ?_
        refine rsn 2 (t := (39, [(0, .ref 18), (1, .ref x1), (2, .int y31_2)], [.ref x1, .int y31_2])) rfl ?_
        obtain ⟨r35, g35, h⟩ := b1_some h
        refine rcV 24 x1 [] rfl rfl rfl (hSh.kW hx1 _) (Nat.le_of_ble_eq_true rfl) rfl (e_Will_early N (by omega) hSh hx1 g35) ?_
        show RN xs L al (Ev xs L al d) 45 42 [(0, .ref 18), (1, .ref x1), (2, .int y31_2)] [.int r35, .int y31_2] ((vX m31 27 y31_2.toNatClampNeg r33), S) none (mf, S)
        refine rsn 2 (t := (44, [(0, .ref 18), (1, .ref x1), (2, .int y31_2)], [.ref x1, .int ((y31_2 &&& r35))])) rfl ?_
        obtain ⟨r36, g36, h⟩ := b1_some h
        refine rcV 24 x1 [] rfl rfl rfl (hSh.kW hx1 _) (Nat.le_of_ble_eq_true rfl) rfl (e_Will_early N (by omega) hSh hx1 g36) ?_
        show RN xs L al (Ev xs L al d) 45 47 [(0, .ref 18), (1, .ref x1), (2, .int y31_2)] [.int r36, .int ((y31_2 &&& r35))] ((vX m31 27 y31_2.toNatClampNeg r33), S) none (mf, S)
        by_cases c37 : ((y31_2 &&& r35)) = r36
        · rw [if_pos c37] at h
          refine rjf (a := (91, [(0, .ref 18), (1, .ref x1), (2, .int y31_2)], [])) (b := (50, [(0, .ref 18), (1, .ref x1), (2, .int y31_2)], [])) rfl rfl (fun q => q c37) ?_
          refine rsn 3 (t := (53, [(0, .ref 18), (1, .ref x1), (2, .int y31_2)], [.ref x1, .int 1, .int y31_2])) rfl ?_
          refine pgI rfl rfl rfl (hSh.kW hx1 _) ?_
          show RN xs L al (Ev xs L al d) 45 56 [(0, .ref 18), (1, .ref x1), (2, .int y31_2)] [.int ((mI m31 x1 0)), .int 1, .int y31_2] ((vX m31 27 y31_2.toNatClampNeg r33), S) none (mf, S)
          refine rsn 1 (t := (57, [(0, .ref 18), (1, .ref x1), (2, .int y31_2)], [.int ((isl 1 ((mI m31 x1 0)))), .int y31_2])) rfl ?_
          by_cases c38 : ((isl 1 ((mI m31 x1 0)))) ≤ y31_2
          · rw [if_pos c38] at h
            refine rjt (a := (91, [(0, .ref 18), (1, .ref x1), (2, .int y31_2)], [])) (b := (60, [(0, .ref 18), (1, .ref x1), (2, .int y31_2)], [])) rfl rfl c38 ?_
            refine rsn 2 (t := (20, [(2, .int ((y31_2 + 1))), (0, .ref 18), (1, .ref x1)], [])) rfl ?_
            exact rsub [(0, .ref 18), (1, .ref x1), (2, .int ((y31_2 + 1)))] ⟨rfl, ⟨rfl, ⟨rfl, trivial⟩⟩⟩ ⟨rfl, ⟨rfl, ⟨rfl, trivial⟩⟩⟩ (ih20 ((y31_2 + 1)) ((vX m31 27 y31_2.toNatClampNeg r33)) h)
          · rw [if_neg c38] at h
            refine rjf (a := (91, [(0, .ref 18), (1, .ref x1), (2, .int y31_2)], [])) (b := (60, [(0, .ref 18), (1, .ref x1), (2, .int y31_2)], [])) rfl rfl c38 ?_
            refine rsn 1 (t := (61, [(0, .ref 18), (1, .ref x1), (2, .int y31_2)], [.ref 18])) rfl ?_
            refine rgR rfl rfl rfl (hSh.1.k 18 rfl _) (hSh.1.r 21 rfl _) ?_
            refine rsn 1 (t := (65, [(0, .ref 18), (1, .ref x1), (2, .int y31_2)], [.ref 18, .ref 28])) rfl ?_
            refine rgR rfl rfl rfl (hSh.1.k 18 rfl _) (hSh.1.r 20 rfl _) ?_
            refine rsn 1 (t := (69, [(0, .ref 18), (1, .ref x1), (2, .int y31_2)], [.int y31_2, .ref 27, .ref 28])) rfl ?_
            obtain ⟨c39, h⟩ := ck_some h
            refine pxI rfl (hSh.1.k 27 rfl _) (hSh.1.l 21 rfl _) c39 ?_
            show RN xs L al (Ev xs L al d) 45 70 [(0, .ref 18), (1, .ref x1), (2, .int y31_2)] [.int ((mX (vX m31 27 y31_2.toNatClampNeg r33) 27 y31_2.toNatClampNeg)), .ref 28] ((vX m31 27 y31_2.toNatClampNeg r33), S) none (mf, S)
            refine rsn 1 (t := (71, [(0, .ref 18), (1, .ref x1), (2, .int y31_2)], [.int y31_2, .int ((mX (vX m31 27 y31_2.toNatClampNeg r33) 27 y31_2.toNatClampNeg)), .ref 28])) rfl ?_
            obtain ⟨c40, h⟩ := ck_some h
            refine psI rfl (hSh.1.k 28 rfl _) (hSh.1.l 22 rfl _) c40 ?_
            refine rsn 2 (t := (74, [(0, .ref 18), (1, .ref x1), (2, .int y31_2)], [.ref 18, .ref 18])) rfl ?_
            refine pgI rfl rfl rfl (hSh.1.k 18 rfl _) ?_
            show RN xs L al (Ev xs L al d) 45 77 [(0, .ref 18), (1, .ref x1), (2, .int y31_2)] [.int ((mI m31 18 10)), .ref 18] ((vX (vX m31 27 y31_2.toNatClampNeg r33) 28 (((mX (vX m31 27 y31_2.toNatClampNeg r33) 27 y31_2.toNatClampNeg)).toNatClampNeg) y31_2), S) none (mf, S)
            refine rsn 1 (t := (78, [(0, .ref 18), (1, .ref x1), (2, .int y31_2)], [.ref 18, .int ((mI m31 18 10)), .ref 18])) rfl ?_
            refine rgR rfl rfl rfl (hSh.1.k 18 rfl _) (hSh.1.r 20 rfl _) ?_
            refine rsn 1 (t := (82, [(0, .ref 18), (1, .ref x1), (2, .int y31_2)], [.int y31_2, .ref 27, .int ((mI m31 18 10)), .ref 18])) rfl ?_
            obtain ⟨c41, h⟩ := ck_some h
            refine pxI rfl (hSh.1.k 27 rfl _) (hSh.1.l 21 rfl _) c41 ?_
            show RN xs L al (Ev xs L al d) 45 83 [(0, .ref 18), (1, .ref x1), (2, .int y31_2)] [.int ((mX (vX m31 27 y31_2.toNatClampNeg r33) 27 y31_2.toNatClampNeg)), .int ((mI m31 18 10)), .ref 18] ((vX (vX m31 27 y31_2.toNatClampNeg r33) 28 (((mX (vX m31 27 y31_2.toNatClampNeg r33) 27 y31_2.toNatClampNeg)).toNatClampNeg) y31_2), S) none (mf, S)
            refine rsn 2 (t := (85, [(0, .ref 18), (1, .ref x1), (2, .int y31_2)], [.int ((((mX (vX m31 27 y31_2.toNatClampNeg r33) 27 y31_2.toNatClampNeg)) + 1)), .int ((mI m31 18 10)), .ref 18])) rfl ?_
            refine rm (st1 := [.int ((if ((mI m31 18 10)) < ((((mX (vX m31 27 y31_2.toNatClampNeg r33) 27 y31_2.toNatClampNeg)) + 1)) then ((((mX (vX m31 27 y31_2.toNatClampNeg r33) 27 y31_2.toNatClampNeg)) + 1)) else ((mI m31 18 10)))), .ref 18]) rfl ⟨rfl, rfl, 0, [.ref 18], rfl, Nat.le_of_ble_eq_true rfl, Or.inl ⟨rfl, _, _, rfl, rfl⟩⟩ ?_
            refine ppI rfl rfl rfl rfl (hSh.1.k 18 rfl _) ?_
            refine rsn 2 (t := (20, [(2, .int ((y31_2 + 1))), (0, .ref 18), (1, .ref x1)], [])) rfl ?_
            exact rsub [(0, .ref 18), (1, .ref x1), (2, .int ((y31_2 + 1)))] ⟨rfl, ⟨rfl, ⟨rfl, trivial⟩⟩⟩ ⟨rfl, ⟨rfl, ⟨rfl, trivial⟩⟩⟩ (ih20 ((y31_2 + 1)) ((vI (vX (vX m31 27 y31_2.toNatClampNeg r33) 28 (((mX (vX m31 27 y31_2.toNatClampNeg r33) 27 y31_2.toNatClampNeg)).toNatClampNeg) y31_2) 18 10 ((if ((mI m31 18 10)) < ((((mX (vX m31 27 y31_2.toNatClampNeg r33) 27 y31_2.toNatClampNeg)) + 1)) then ((((mX (vX m31 27 y31_2.toNatClampNeg r33) 27 y31_2.toNatClampNeg)) + 1)) else ((mI m31 18 10)))))) h)
        · rw [if_neg c37] at h
          refine rjt (a := (91, [(0, .ref 18), (1, .ref x1), (2, .int y31_2)], [])) (b := (50, [(0, .ref 18), (1, .ref x1), (2, .int y31_2)], [])) rfl rfl c37 ?_
          refine rsn 2 (t := (20, [(2, .int ((y31_2 + 1))), (0, .ref 18), (1, .ref x1)], [])) rfl ?_
          exact rsub [(0, .ref 18), (1, .ref x1), (2, .int ((y31_2 + 1)))] ⟨rfl, ⟨rfl, ⟨rfl, trivial⟩⟩⟩ ⟨rfl, ⟨rfl, ⟨rfl, trivial⟩⟩⟩ (ih20 ((y31_2 + 1)) ((vX m31 27 y31_2.toNatClampNeg r33)) h)
  exact rsub [(0, .ref 18), (1, .ref x1), (2, .int 0)] ⟨rfl, ⟨rfl, ⟨rfl, trivial⟩⟩⟩ ⟨rfl, ⟨rfl, ⟨rfl, trivial⟩⟩⟩ (lp20 N 0 (vI (vI m 18 11 ((if 6 < ((mI m x1 1)) then 6 else ((mI m x1 1))))) 18 10 1) h)
def f_Table_startAnew (N : Nat) (S : St) (x0 : Nat) (m : Mm) : Option (Mm) := some (vI m x0 1 0)
set_option maxRecDepth 20000 in
set_option maxHeartbeats 4000000 in
theorem e_Table_startAnew {xs : Nat → Int32} {L : Nat} {al : Bool} (N : Nat) {d : Nat} (hd : 1 ≤ d) {S : St} (hSh : ShC S) {x0 : Nat} (hx0 : x0 ∈ tKl) {m : Mm} {mf : Mm} (h : f_Table_startAnew N S x0 m = some mf) : Ev xs L al d 51 [.ref x0] (m, S) none (mf, S) := by
  obtain ⟨d, rfl⟩ : ∃ e, d = e + 1 := ⟨d - 1, by omega⟩
  refine ev_of (by decide) (Nat.le_of_ble_eq_true rfl) ?_
  rw [f_Table_startAnew] at h
  show RN xs L al (Ev xs L al d) 51 0 [(0, .ref x0)] [] (m, S) none (mf, S)
  refine rsn 2 (t := (2, [(0, .ref x0)], [.int 0, .ref x0])) rfl ?_
  refine ppZ rfl rfl rfl rfl (hSh.kT hx0 _) (Or.inl rfl) ?_
  have h := Option.some.inj h
  subst h
  exact rret rfl ⟨rfl, rfl, rfl, rfl, rfl⟩
def f_Book_startAnew_L13 (N : Nat) (S : St) (k13 : Int32 → Mm → Option (Mm)) : Nat → Int32 → Mm → Option (Mm)
  | 0, _, _ => none
  | n13 + 1, x1, m => (if ((Int32.ofNat 9)) ≤ x1 then k13 x1 m else ck (ix x1 9) (b3 (f_Table_startAnew N S (((33 + 3 * x1.toNatClampNeg) + 1)) m) fun m4 => f_Book_startAnew_L13 N S k13 n13 ((x1 + 1)) m4))
def f_Book_startAnew_L42 (N : Nat) (S : St) (k42 : Int32 → Mm → Option (Mm)) : Nat → Int32 → Mm → Option (Mm)
  | 0, _, _ => none
  | n42 + 1, x1, m => (if ((Int32.ofNat 12)) ≤ x1 then k42 x1 m else ck (ix x1 12) (b3 (f_Table_startAnew N S (((61 + 3 * x1.toNatClampNeg) + 1)) m) fun m8 => f_Book_startAnew_L42 N S k42 n42 ((x1 + 1)) m8))
def f_Book_startAnew (N : Nat) (S : St) (m : Mm) : Option (Mm) := b3 (f_Ranks_layOut N S 10 m) fun m1 => f_Book_startAnew_L13 N S (fun (z5_1 : Int32) (m5 : Mm) => f_Book_startAnew_L42 N S (fun (z9_1 : Int32) (m9 : Mm) => some m9) N 0 m5) N 0 m1
set_option maxRecDepth 20000 in
set_option maxHeartbeats 4000000 in
theorem e_Book_startAnew {xs : Nat → Int32} {L : Nat} {al : Bool} (N : Nat) {d : Nat} (hd : 5 ≤ d) {S : St} (hSh : ShC S) {m : Mm} {mf : Mm} (h : f_Book_startAnew N S m = some mf) : Ev xs L al d 44 [.ref 17] (m, S) none (mf, S) := by
  obtain ⟨d, rfl⟩ : ∃ e, d = e + 1 := ⟨d - 1, by omega⟩
  refine ev_of (by decide) (Nat.le_of_ble_eq_true rfl) ?_
  rw [f_Book_startAnew] at h
  show RN xs L al (Ev xs L al d) 44 0 [(0, .ref 17)] [] (m, S) none (mf, S)
  refine rsn 1 (t := (1, [(0, .ref 17)], [.ref 17])) rfl ?_
  refine rgR rfl rfl rfl (hSh.1.k 17 rfl _) (hSh.1.r 96 rfl _) ?_
  refine rsn 1 (t := (5, [(0, .ref 17)], [.ref 17, .ref 18])) rfl ?_
  refine rgR rfl rfl rfl (hSh.1.k 17 rfl _) (hSh.1.r 95 rfl _) ?_
  obtain ⟨m1, g1, h⟩ := b3_some h
  refine rcV 45 18 [.ref 10] rfl rfl rfl (hSh.1.k 18 rfl _) (Nat.le_of_ble_eq_true rfl) rfl (e_Ranks_layOut N (by omega) hSh (by decide) g1) ?_
  show RN xs L al (Ev xs L al d) 44 11 [(0, .ref 17)] [] (m1, S) none (mf, S)
  refine rsn 2 (t := (13, [(1, .int 0), (0, .ref 17)], [])) rfl ?_
  have ex13 : ∀ (z5_1 : Int32) (m5 : Mm), (f_Book_startAnew_L42 N S (fun (z9_1 : Int32) (m9 : Mm) => some m9) N 0 m5) = some mf → RN xs L al (Ev xs L al d) 44 40 [(0, .ref 17)] [] (m5, S) none (mf, S) := by
    intro z5_1 m5 h
    try dsimp only at h
    refine rsn 2 (t := (42, [(1, .int 0), (0, .ref 17)], [])) rfl ?_
    have ex42 : ∀ (z9_1 : Int32) (m9 : Mm), (some m9) = some mf → RN xs L al (Ev xs L al d) 44 69 [] [] (m9, S) none (mf, S) := by
      intro z9_1 m9 h
      try dsimp only at h
      have h := Option.some.inj h
      subst h
      exact rret rfl ⟨rfl, rfl, rfl, rfl, rfl⟩
    have lp42 : ∀ (n : Nat) (y10_1 : Int32) (m10 : Mm), (f_Book_startAnew_L42 N S (fun (z9_1 : Int32) (m9 : Mm) => some m9) n y10_1 m10) = some mf → RN xs L al (Ev xs L al d) 44 42 [(0, .ref 17), (1, .int y10_1)] [] (m10, S) none (mf, S) := by
      intro n
      induction n with
      | zero => intro y10_1 m10 h; exact absurd h (by simp [f_Book_startAnew_L42])
      | succ n42 ih42 =>
        intro y10_1 m10 h
        try dsimp only at h
        rw [f_Book_startAnew_L42] at h
        try dsimp only at h
        refine rsn 2 (t := (44, [(0, .ref 17), (1, .int y10_1)], [.ref 17, .int y10_1])) rfl ?_
        refine rgR rfl rfl rfl (hSh.1.k 17 rfl _) (hSh.1.r 99 rfl _) ?_
        refine rxL rfl (hSh.1.k 60 rfl _) (by decide) (hSh.1.l 25 rfl _) ?_
        show RN xs L al (Ev xs L al d) 44 48 [(0, .ref 17), (1, .int y10_1)] [.int ((Int32.ofNat 12)), .int y10_1] (m10, S) none (mf, S)
        by_cases c11 : ((Int32.ofNat 12)) ≤ y10_1
        · rw [if_pos c11] at h
          refine rjt (a := (69, [(0, .ref 17), (1, .int y10_1)], [])) (b := (51, [(0, .ref 17), (1, .int y10_1)], [])) rfl rfl c11 ?_
          exact rsub [] trivial trivial (ex42 y10_1 m10 h)
        · rw [if_neg c11] at h
          refine rjf (a := (69, [(0, .ref 17), (1, .int y10_1)], [])) (b := (51, [(0, .ref 17), (1, .int y10_1)], [])) rfl rfl c11 ?_
          refine rsn 1 (t := (52, [(0, .ref 17), (1, .int y10_1)], [.ref 17])) rfl ?_
          refine rgR rfl rfl rfl (hSh.1.k 17 rfl _) (hSh.1.r 99 rfl _) ?_
          refine rsn 1 (t := (56, [(0, .ref 17), (1, .int y10_1)], [.int y10_1, .ref 60])) rfl ?_
          obtain ⟨c12, h⟩ := ck_some h
          refine rxA (t := (61 + 3 * y10_1.toNatClampNeg)) rfl (Or.inr (hSh.1.k 60 rfl _)) (hSh.1.l 25 rfl _) c12 (hSh.zS c12) ?_
          refine rgR rfl rfl rfl (hSh.kS (sK_i c12) _) (hSh.rS0 (sK_i c12) _) ?_
          obtain ⟨m13, g13, h⟩ := b3_some h
          refine rcV 51 (((61 + 3 * y10_1.toNatClampNeg) + 1)) [] rfl rfl rfl (hSh.kT (sK_t (sK_i c12)) _) (Nat.le_of_ble_eq_true rfl) rfl (e_Table_startAnew N (by omega) hSh (sK_t (sK_i c12)) g13) ?_
          show RN xs L al (Ev xs L al d) 44 63 [(0, .ref 17), (1, .int y10_1)] [] (m13, S) none (mf, S)
          refine rsn 2 (t := (42, [(1, .int ((y10_1 + 1))), (0, .ref 17)], [])) rfl ?_
          exact rsub [(0, .ref 17), (1, .int ((y10_1 + 1)))] ⟨rfl, ⟨rfl, trivial⟩⟩ ⟨rfl, ⟨rfl, trivial⟩⟩ (ih42 ((y10_1 + 1)) m13 h)
    exact rsub [(0, .ref 17), (1, .int 0)] ⟨rfl, ⟨rfl, trivial⟩⟩ ⟨rfl, ⟨rfl, trivial⟩⟩ (lp42 N 0 m5 h)
  have lp13 : ∀ (n : Nat) (y14_1 : Int32) (m14 : Mm), (f_Book_startAnew_L13 N S (fun (z5_1 : Int32) (m5 : Mm) => f_Book_startAnew_L42 N S (fun (z9_1 : Int32) (m9 : Mm) => some m9) N 0 m5) n y14_1 m14) = some mf → RN xs L al (Ev xs L al d) 44 13 [(0, .ref 17), (1, .int y14_1)] [] (m14, S) none (mf, S) := by
    intro n
    induction n with
    | zero => intro y14_1 m14 h; exact absurd h (by simp [f_Book_startAnew_L13])
    | succ n13 ih13 =>
      intro y14_1 m14 h
      try dsimp only at h
      rw [f_Book_startAnew_L13] at h
      try dsimp only at h
      refine rsn 2 (t := (15, [(0, .ref 17), (1, .int y14_1)], [.ref 17, .int y14_1])) rfl ?_
      refine rgR rfl rfl rfl (hSh.1.k 17 rfl _) (hSh.1.r 98 rfl _) ?_
      refine rxL rfl (hSh.1.k 32 rfl _) (by decide) (hSh.1.l 24 rfl _) ?_
      show RN xs L al (Ev xs L al d) 44 19 [(0, .ref 17), (1, .int y14_1)] [.int ((Int32.ofNat 9)), .int y14_1] (m14, S) none (mf, S)
      by_cases c15 : ((Int32.ofNat 9)) ≤ y14_1
      · rw [if_pos c15] at h
        refine rjt (a := (40, [(0, .ref 17), (1, .int y14_1)], [])) (b := (22, [(0, .ref 17), (1, .int y14_1)], [])) rfl rfl c15 ?_
        exact rsub [(0, .ref 17)] ⟨rfl, trivial⟩ ⟨rfl, trivial⟩ (ex13 y14_1 m14 h)
      · rw [if_neg c15] at h
        refine rjf (a := (40, [(0, .ref 17), (1, .int y14_1)], [])) (b := (22, [(0, .ref 17), (1, .int y14_1)], [])) rfl rfl c15 ?_
        refine rsn 1 (t := (23, [(0, .ref 17), (1, .int y14_1)], [.ref 17])) rfl ?_
        refine rgR rfl rfl rfl (hSh.1.k 17 rfl _) (hSh.1.r 98 rfl _) ?_
        refine rsn 1 (t := (27, [(0, .ref 17), (1, .int y14_1)], [.int y14_1, .ref 32])) rfl ?_
        obtain ⟨c16, h⟩ := ck_some h
        refine rxA (t := (33 + 3 * y14_1.toNatClampNeg)) rfl (Or.inl (hSh.1.k 32 rfl _)) (hSh.1.l 24 rfl _) c16 (hSh.zE c16) ?_
        refine rgR rfl rfl rfl (hSh.kE (eK_i c16) _) (hSh.rE0 (eK_i c16) _) ?_
        obtain ⟨m17, g17, h⟩ := b3_some h
        refine rcV 51 (((33 + 3 * y14_1.toNatClampNeg) + 1)) [] rfl rfl rfl (hSh.kT (eK_t (eK_i c16)) _) (Nat.le_of_ble_eq_true rfl) rfl (e_Table_startAnew N (by omega) hSh (eK_t (eK_i c16)) g17) ?_
        show RN xs L al (Ev xs L al d) 44 34 [(0, .ref 17), (1, .int y14_1)] [] (m17, S) none (mf, S)
        refine rsn 2 (t := (13, [(1, .int ((y14_1 + 1))), (0, .ref 17)], [])) rfl ?_
        exact rsub [(0, .ref 17), (1, .int ((y14_1 + 1)))] ⟨rfl, ⟨rfl, trivial⟩⟩ ⟨rfl, ⟨rfl, trivial⟩⟩ (ih13 ((y14_1 + 1)) m17 h)
  exact rsub [(0, .ref 17), (1, .int 0)] ⟨rfl, ⟨rfl, trivial⟩⟩ ⟨rfl, ⟨rfl, trivial⟩⟩ (lp13 N 0 m1 h)
def f_SC_matter_L65 (N : Nat) (S : St) (k65 : Int32 → Mm → Option (Int32 × Mm)) : Nat → Int32 → Mm → Option (Int32 × Mm)
  | 0, _, _ => none
  | n65 + 1, x1, m => (if 4 ≤ x1 then k65 x1 m else ck (ix x1 4) (f_SC_matter_L65 N S k65 n65 ((x1 + 1)) ((vX m 98 x1.toNatClampNeg ((vp_nar .boolean 0))))))
def f_SC_matter (N : Nat) (S : St) (m : Mm) : Option (Int32 × Mm) := b2 (f_Reader_read N S ((mI m 0 1)) 3 m) fun r1 m1 => (if r1 = ((-1)) then b2 (f_Reader_read N S ((mI m1 0 1)) 10 m1) fun r3 m3 => b1 (f_Will_firstState N S 10 (vI (vI m3 0 1 0) 0 6 1)) fun r4 => f_SC_matter_L65 N S (fun (z7_1 : Int32) (m7 : Mm) => b3 (f_Book_startAnew N S m7) fun m8 => some ((mI m8 10 0), m8)) N 0 (vI (vJ (vI (vI m3 0 1 0) 0 6 1) 0 7 r4) 0 8 ((-1))) else some ((-1), m1))
set_option maxRecDepth 20000 in
set_option maxHeartbeats 4000000 in
theorem e_SC_matter {xs : Nat → Int32} {L : Nat} {al : Bool} (N : Nat) {d : Nat} (hd : 8 ≤ d) {S : St} (hSh : ShC S) {m : Mm} {r0 : Int32} {mf : Mm} (h : f_SC_matter N S m = some (r0, mf)) : Ev xs L al d 42 [.ref 0] (m, S) (some (.int r0)) (mf, S) := by
  obtain ⟨d, rfl⟩ : ∃ e, d = e + 1 := ⟨d - 1, by omega⟩
  refine ev_of (by decide) (Nat.le_of_ble_eq_true rfl) ?_
  rw [f_SC_matter] at h
  show RN xs L al (Ev xs L al d) 42 0 [(0, .ref 0)] [] (m, S) (some (.int r0)) (mf, S)
  refine rsn 1 (t := (1, [(0, .ref 0)], [.ref 0])) rfl ?_
  refine rgR rfl rfl rfl (hSh.1.k 0 rfl _) (hSh.1.r 86 rfl _) ?_
  refine rsn 1 (t := (5, [(0, .ref 0)], [.ref 0, .ref 2])) rfl ?_
  refine pgI rfl rfl rfl (hSh.1.k 0 rfl _) ?_
  show RN xs L al (Ev xs L al d) 42 8 [(0, .ref 0)] [.int ((mI m 0 1)), .ref 2] (m, S) (some (.int r0)) (mf, S)
  refine rsn 1 (t := (9, [(0, .ref 0)], [.ref 0, .int ((mI m 0 1)), .ref 2])) rfl ?_
  refine rgR rfl rfl rfl (hSh.1.k 0 rfl _) (hSh.1.r 87 rfl _) ?_
  obtain ⟨r1, m1, g1, h⟩ := b2_some h
  refine rcV 17 2 [.int ((mI m 0 1)), .ref 3] rfl rfl rfl (hSh.1.k 2 rfl _) (Nat.le_of_ble_eq_true rfl) rfl (e_Reader_read N (by omega) hSh (by decide) g1) ?_
  show RN xs L al (Ev xs L al d) 42 15 [(0, .ref 0)] [.int r1] (m1, S) (some (.int r0)) (mf, S)
  refine rsn 1 (t := (16, [(0, .ref 0)], [.int ((-1)), .int r1])) rfl ?_
  by_cases c2 : r1 = ((-1))
  · rw [if_pos c2] at h
    refine rjt (a := (21, [(0, .ref 0)], [])) (b := (19, [(0, .ref 0)], [])) rfl rfl c2 ?_
    refine rsn 1 (t := (22, [(0, .ref 0)], [.ref 0])) rfl ?_
    refine rgR rfl rfl rfl (hSh.1.k 0 rfl _) (hSh.1.r 86 rfl _) ?_
    refine rsn 1 (t := (26, [(0, .ref 0)], [.ref 0, .ref 2])) rfl ?_
    refine pgI rfl rfl rfl (hSh.1.k 0 rfl _) ?_
    show RN xs L al (Ev xs L al d) 42 29 [(0, .ref 0)] [.int ((mI m1 0 1)), .ref 2] (m1, S) (some (.int r0)) (mf, S)
    refine rsn 1 (t := (30, [(0, .ref 0)], [.ref 0, .int ((mI m1 0 1)), .ref 2])) rfl ?_
    refine rgR rfl rfl rfl (hSh.1.k 0 rfl _) (hSh.1.r 88 rfl _) ?_
    obtain ⟨r3, m3, g3, h⟩ := b2_some h
    refine rcV 17 2 [.int ((mI m1 0 1)), .ref 10] rfl rfl rfl (hSh.1.k 2 rfl _) (Nat.le_of_ble_eq_true rfl) rfl (e_Reader_read N (by omega) hSh (by decide) g3) ?_
    show RN xs L al (Ev xs L al d) 42 36 [(0, .ref 0)] [.int r3] (m3, S) (some (.int r0)) (mf, S)
    refine rsn 3 (t := (39, [(0, .ref 0)], [.int 0, .ref 0])) rfl ?_
    refine ppI rfl rfl rfl rfl (hSh.1.k 0 rfl _) ?_
    refine rsn 2 (t := (44, [(0, .ref 0)], [.int 1, .ref 0])) rfl ?_
    refine ppZ rfl rfl rfl rfl (hSh.1.k 0 rfl _) (Or.inr rfl) ?_
    refine rsn 2 (t := (49, [(0, .ref 0)], [.ref 0, .ref 0])) rfl ?_
    refine rgR rfl rfl rfl (hSh.1.k 0 rfl _) (hSh.1.r 88 rfl _) ?_
    obtain ⟨r4, g4, h⟩ := b1_some h
    refine rcV 43 10 [] rfl rfl rfl (hSh.1.k 10 rfl _) (Nat.le_of_ble_eq_true rfl) rfl (e_Will_firstState N (by omega) hSh (by decide) g4) ?_
    show RN xs L al (Ev xs L al d) 42 55 [(0, .ref 0)] [.long r4, .ref 0] ((vI (vI m3 0 1 0) 0 6 1), S) (some (.int r0)) (mf, S)
    refine ppJ rfl rfl rfl rfl (hSh.1.k 0 rfl _) ?_
    refine rsn 2 (t := (60, [(0, .ref 0)], [.int ((-1)), .ref 0])) rfl ?_
    refine ppI rfl rfl rfl rfl (hSh.1.k 0 rfl _) ?_
    refine rsn 2 (t := (65, [(1, .int 0), (0, .ref 0)], [])) rfl ?_
    have ex65 : ∀ (z7_1 : Int32) (m7 : Mm), (b3 (f_Book_startAnew N S m7) fun m8 => some ((mI m8 10 0), m8)) = some (r0, mf) → RN xs L al (Ev xs L al d) 42 83 [(0, .ref 0)] [] (m7, S) (some (.int r0)) (mf, S) := by
      intro z7_1 m7 h
      try dsimp only at h
      refine rsn 1 (t := (84, [(0, .ref 0)], [.ref 0])) rfl ?_
      refine rgR rfl rfl rfl (hSh.1.k 0 rfl _) (hSh.1.r 89 rfl _) ?_
      obtain ⟨m8, g8, h⟩ := b3_some h
      refine rcV 44 17 [] rfl rfl rfl (hSh.1.k 17 rfl _) (Nat.le_of_ble_eq_true rfl) rfl (e_Book_startAnew N (by omega) hSh g8) ?_
      show RN xs L al (Ev xs L al d) 42 90 [(0, .ref 0)] [] (m8, S) (some (.int r0)) (mf, S)
      refine rsn 1 (t := (91, [(0, .ref 0)], [.ref 0])) rfl ?_
      refine rgR rfl rfl rfl (hSh.1.k 0 rfl _) (hSh.1.r 88 rfl _) ?_
      refine pgI rfl rfl rfl (hSh.1.k 10 rfl _) ?_
      show RN xs L al (Ev xs L al d) 42 97 [(0, .ref 0)] [.int ((mI m8 10 0))] (m8, S) (some (.int r0)) (mf, S)
      obtain ⟨h, h2⟩ := Prod.mk.inj (Option.some.inj h)
      subst h
      subst h2
      exact rret rfl ⟨rfl, rfl, _, _, rfl, rfl, rfl, rfl⟩
    have lp65 : ∀ (n : Nat) (y9_1 : Int32) (m9 : Mm), (f_SC_matter_L65 N S (fun (z7_1 : Int32) (m7 : Mm) => b3 (f_Book_startAnew N S m7) fun m8 => some ((mI m8 10 0), m8)) n y9_1 m9) = some (r0, mf) → RN xs L al (Ev xs L al d) 42 65 [(0, .ref 0), (1, .int y9_1)] [] (m9, S) (some (.int r0)) (mf, S) := by
      intro n
      induction n with
      | zero => intro y9_1 m9 h; exact absurd h (by simp [f_SC_matter_L65])
      | succ n65 ih65 =>
        intro y9_1 m9 h
        try dsimp only at h
        rw [f_SC_matter_L65] at h
        try dsimp only at h
        refine rsn 2 (t := (67, [(0, .ref 0), (1, .int y9_1)], [.int 4, .int y9_1])) rfl ?_
        by_cases c10 : 4 ≤ y9_1
        · rw [if_pos c10] at h
          refine rjt (a := (83, [(0, .ref 0), (1, .int y9_1)], [])) (b := (70, [(0, .ref 0), (1, .int y9_1)], [])) rfl rfl c10 ?_
          exact rsub [(0, .ref 0)] ⟨rfl, trivial⟩ ⟨rfl, trivial⟩ (ex65 y9_1 m9 h)
        · rw [if_neg c10] at h
          refine rjf (a := (83, [(0, .ref 0), (1, .int y9_1)], [])) (b := (70, [(0, .ref 0), (1, .int y9_1)], [])) rfl rfl c10 ?_
          refine rsn 1 (t := (71, [(0, .ref 0), (1, .int y9_1)], [.ref 0])) rfl ?_
          refine rgR rfl rfl rfl (hSh.1.k 0 rfl _) (hSh.1.r 90 rfl _) ?_
          refine rsn 2 (t := (76, [(0, .ref 0), (1, .int y9_1)], [.int 0, .int y9_1, .ref 98])) rfl ?_
          obtain ⟨c11, h⟩ := ck_some h
          refine psZ rfl (hSh.1.k 98 rfl _) (hSh.1.l 26 rfl _) c11 ?_
          refine rsn 2 (t := (65, [(1, .int ((y9_1 + 1))), (0, .ref 0)], [])) rfl ?_
          exact rsub [(0, .ref 0), (1, .int ((y9_1 + 1)))] ⟨rfl, ⟨rfl, trivial⟩⟩ ⟨rfl, ⟨rfl, trivial⟩⟩ (ih65 ((y9_1 + 1)) ((vX m9 98 y9_1.toNatClampNeg ((vp_nar .boolean 0)))) h)
    exact rsub [(0, .ref 0), (1, .int 0)] ⟨rfl, ⟨rfl, trivial⟩⟩ ⟨rfl, ⟨rfl, trivial⟩⟩ (lp65 N 0 (vI (vJ (vI (vI m3 0 1 0) 0 6 1) 0 7 r4) 0 8 ((-1))) h)
  · rw [if_neg c2] at h
    refine rjf (a := (21, [(0, .ref 0)], [])) (b := (19, [(0, .ref 0)], [])) rfl rfl c2 ?_
    refine rsn 1 (t := (20, [(0, .ref 0)], [.int ((-1))])) rfl ?_
    obtain ⟨h, h2⟩ := Prod.mk.inj (Option.some.inj h)
    subst h
    subst h2
    exact rret rfl ⟨rfl, rfl, _, _, rfl, rfl, rfl, rfl⟩
def f_Will_isHeir (N : Nat) (S : St) (x0 : Nat) (x1 : Int32) (m : Mm) : Option (Int32) := (if x1 < 0 then some 0 else (if ((mI m x0 0)) ≤ x1 then some 0 else some 1))
set_option maxRecDepth 20000 in
set_option maxHeartbeats 4000000 in
theorem e_Will_isHeir {xs : Nat → Int32} {L : Nat} {al : Bool} (N : Nat) {d : Nat} (hd : 1 ≤ d) {S : St} (hSh : ShC S) {x0 : Nat} {x1 : Int32} (hx0 : x0 ∈ wKl) {m : Mm} {r0 : Int32} (h : f_Will_isHeir N S x0 x1 m = some r0) : Ev xs L al d 53 [.ref x0, .int x1] (m, S) (some (.int r0)) (m, S) := by
  obtain ⟨d, rfl⟩ : ∃ e, d = e + 1 := ⟨d - 1, by omega⟩
  refine ev_of (by decide) (Nat.le_of_ble_eq_true rfl) ?_
  rw [f_Will_isHeir] at h
  show RN xs L al (Ev xs L al d) 53 0 [(0, .ref x0), (1, .int x1)] [] (m, S) (some (.int r0)) (m, S)
  refine rsn 1 (t := (1, [(0, .ref x0), (1, .int x1)], [.int x1])) rfl ?_
  by_cases c1 : x1 < 0
  · rw [if_pos c1] at h
    refine rjt (a := (16, [(0, .ref x0), (1, .int x1)], [])) (b := (4, [(0, .ref x0), (1, .int x1)], [])) rfl rfl c1 ?_
    refine rsn 1 (t := (17, [(0, .ref x0), (1, .int x1)], [.int 0])) rfl ?_
    have h := Option.some.inj h
    subst h
    exact rret rfl ⟨rfl, rfl, _, _, rfl, rfl, rfl, rfl⟩
  · rw [if_neg c1] at h
    refine rjf (a := (16, [(0, .ref x0), (1, .int x1)], [])) (b := (4, [(0, .ref x0), (1, .int x1)], [])) rfl rfl c1 ?_
    refine rsn 2 (t := (6, [(0, .ref x0), (1, .int x1)], [.ref x0, .int x1])) rfl ?_
    refine pgI rfl rfl rfl (hSh.kW hx0 _) ?_
    show RN xs L al (Ev xs L al d) 53 9 [(0, .ref x0), (1, .int x1)] [.int ((mI m x0 0)), .int x1] (m, S) (some (.int r0)) (m, S)
    by_cases c2 : ((mI m x0 0)) ≤ x1
    · rw [if_pos c2] at h
      refine rjt (a := (16, [(0, .ref x0), (1, .int x1)], [])) (b := (12, [(0, .ref x0), (1, .int x1)], [])) rfl rfl c2 ?_
      refine rsn 1 (t := (17, [(0, .ref x0), (1, .int x1)], [.int 0])) rfl ?_
      have h := Option.some.inj h
      subst h
      exact rret rfl ⟨rfl, rfl, _, _, rfl, rfl, rfl, rfl⟩
    · rw [if_neg c2] at h
      refine rjf (a := (16, [(0, .ref x0), (1, .int x1)], [])) (b := (12, [(0, .ref x0), (1, .int x1)], [])) rfl rfl c2 ?_
      refine rsn 2 (t := (17, [(0, .ref x0), (1, .int x1)], [.int 1])) rfl ?_
      have h := Option.some.inj h
      subst h
      exact rret rfl ⟨rfl, rfl, _, _, rfl, rfl, rfl, rfl⟩
def f_Will_worth (N : Nat) (S : St) (x0 : Nat) (x1 : Int32) (x2 : Int32) (m : Mm) : Option (Int32) := (if x1 < 0 then some 0 else (if ((mI m x0 0)) ≤ x1 then some 0 else (if x2 < 0 then some 0 else (if x2 < 3 then ck (ix ((((x1 * 3)) + x2)) 9) (some ((mX m ((x0 + 2)) (((((x1 * 3)) + x2)).toNatClampNeg)))) else some 0))))
set_option maxRecDepth 20000 in
set_option maxHeartbeats 4000000 in
theorem e_Will_worth {xs : Nat → Int32} {L : Nat} {al : Bool} (N : Nat) {d : Nat} (hd : 1 ≤ d) {S : St} (hSh : ShC S) {x0 : Nat} {x1 : Int32} {x2 : Int32} (hx0 : x0 ∈ wKl) {m : Mm} {r0 : Int32} (h : f_Will_worth N S x0 x1 x2 m = some r0) : Ev xs L al d 56 [.ref x0, .int x1, .int x2] (m, S) (some (.int r0)) (m, S) := by
  obtain ⟨d, rfl⟩ : ∃ e, d = e + 1 := ⟨d - 1, by omega⟩
  refine ev_of (by decide) (Nat.le_of_ble_eq_true rfl) ?_
  rw [f_Will_worth] at h
  show RN xs L al (Ev xs L al d) 56 0 [(0, .ref x0), (1, .int x1), (2, .int x2)] [] (m, S) (some (.int r0)) (m, S)
  refine rsn 1 (t := (1, [(0, .ref x0), (1, .int x1), (2, .int x2)], [.int x1])) rfl ?_
  by_cases c1 : x1 < 0
  · rw [if_pos c1] at h
    refine rjt (a := (21, [(0, .ref x0), (1, .int x1), (2, .int x2)], [])) (b := (4, [(0, .ref x0), (1, .int x1), (2, .int x2)], [])) rfl rfl c1 ?_
    refine rsn 1 (t := (22, [(0, .ref x0), (1, .int x1), (2, .int x2)], [.int 0])) rfl ?_
    have h := Option.some.inj h
    subst h
    exact rret rfl ⟨rfl, rfl, _, _, rfl, rfl, rfl, rfl⟩
  · rw [if_neg c1] at h
    refine rjf (a := (21, [(0, .ref x0), (1, .int x1), (2, .int x2)], [])) (b := (4, [(0, .ref x0), (1, .int x1), (2, .int x2)], [])) rfl rfl c1 ?_
    refine rsn 2 (t := (6, [(0, .ref x0), (1, .int x1), (2, .int x2)], [.ref x0, .int x1])) rfl ?_
    refine pgI rfl rfl rfl (hSh.kW hx0 _) ?_
    show RN xs L al (Ev xs L al d) 56 9 [(0, .ref x0), (1, .int x1), (2, .int x2)] [.int ((mI m x0 0)), .int x1] (m, S) (some (.int r0)) (m, S)
    by_cases c2 : ((mI m x0 0)) ≤ x1
    · rw [if_pos c2] at h
      refine rjt (a := (21, [(0, .ref x0), (1, .int x1), (2, .int x2)], [])) (b := (12, [(0, .ref x0), (1, .int x1), (2, .int x2)], [])) rfl rfl c2 ?_
      refine rsn 1 (t := (22, [(0, .ref x0), (1, .int x1), (2, .int x2)], [.int 0])) rfl ?_
      have h := Option.some.inj h
      subst h
      exact rret rfl ⟨rfl, rfl, _, _, rfl, rfl, rfl, rfl⟩
    · rw [if_neg c2] at h
      refine rjf (a := (21, [(0, .ref x0), (1, .int x1), (2, .int x2)], [])) (b := (12, [(0, .ref x0), (1, .int x1), (2, .int x2)], [])) rfl rfl c2 ?_
      refine rsn 1 (t := (13, [(0, .ref x0), (1, .int x1), (2, .int x2)], [.int x2])) rfl ?_
      by_cases c3 : x2 < 0
      · rw [if_pos c3] at h
        refine rjt (a := (21, [(0, .ref x0), (1, .int x1), (2, .int x2)], [])) (b := (16, [(0, .ref x0), (1, .int x1), (2, .int x2)], [])) rfl rfl c3 ?_
        refine rsn 1 (t := (22, [(0, .ref x0), (1, .int x1), (2, .int x2)], [.int 0])) rfl ?_
        have h := Option.some.inj h
        subst h
        exact rret rfl ⟨rfl, rfl, _, _, rfl, rfl, rfl, rfl⟩
      · rw [if_neg c3] at h
        refine rjf (a := (21, [(0, .ref x0), (1, .int x1), (2, .int x2)], [])) (b := (16, [(0, .ref x0), (1, .int x1), (2, .int x2)], [])) rfl rfl c3 ?_
        refine rsn 2 (t := (18, [(0, .ref x0), (1, .int x1), (2, .int x2)], [.int 3, .int x2])) rfl ?_
        by_cases c4 : x2 < 3
        · rw [if_pos c4] at h
          refine rjt (a := (23, [(0, .ref x0), (1, .int x1), (2, .int x2)], [])) (b := (21, [(0, .ref x0), (1, .int x1), (2, .int x2)], [])) rfl rfl c4 ?_
          refine rsn 1 (t := (24, [(0, .ref x0), (1, .int x1), (2, .int x2)], [.ref x0])) rfl ?_
          refine rgR rfl rfl rfl (hSh.kW hx0 _) (hSh.rWa2 hx0 _) ?_
          refine rsn 5 (t := (32, [(0, .ref x0), (1, .int x1), (2, .int x2)], [.int ((((x1 * 3)) + x2)), .ref ((x0 + 2))])) rfl ?_
          obtain ⟨c5, h⟩ := ck_some h
          refine pxI rfl (hSh.kWa2 hx0 _) (hSh.lWa2 hx0 _) c5 ?_
          show RN xs L al (Ev xs L al d) 56 33 [(0, .ref x0), (1, .int x1), (2, .int x2)] [.int ((mX m ((x0 + 2)) (((((x1 * 3)) + x2)).toNatClampNeg)))] (m, S) (some (.int r0)) (m, S)
          have h := Option.some.inj h
          subst h
          exact rret rfl ⟨rfl, rfl, _, _, rfl, rfl, rfl, rfl⟩
        · rw [if_neg c4] at h
          refine rjf (a := (23, [(0, .ref x0), (1, .int x1), (2, .int x2)], [])) (b := (21, [(0, .ref x0), (1, .int x1), (2, .int x2)], [])) rfl rfl c4 ?_
          refine rsn 1 (t := (22, [(0, .ref x0), (1, .int x1), (2, .int x2)], [.int 0])) rfl ?_
          have h := Option.some.inj h
          subst h
          exact rret rfl ⟨rfl, rfl, _, _, rfl, rfl, rfl, rfl⟩
def f_Will_valueOf_L33 (N : Nat) (S : St) (x0 : Nat) (x5 : Int32) (m : Mm) (k33 : Int64 → Int32 → Int32 → Option (Int32)) : Nat → Int64 → Int32 → Int32 → Option (Int32)
  | 0, _, _, _ => none
  | n33 + 1, x6, x8, x9 => (if 3 ≤ x9 then k33 x6 x8 x9 else ck (ix ((x5 + x9)) 9) (f_Will_valueOf_L33 N S x0 x5 m k33 n33 ((lus x6 12)) ((x8 + ((((mX m ((x0 + 2)) (((x5 + x9)).toNatClampNeg))) * ((x6.toInt32 &&& 7)))))) ((x9 + 1))))
def f_Will_valueOf (N : Nat) (S : St) (x0 : Nat) (x1 : Int32) (x2 : Int64) (x4 : Int32) (m : Mm) : Option (Int32) := (if x1 < 0 then some 0 else (if x1 < ((mI m x0 0)) then f_Will_valueOf_L33 N S x0 ((x1 * 3)) m (fun (z5_6 : Int64) (z5_8 : Int32) (z5_9 : Int32) => some z5_8) N ((lus x2 ((3 * x4)))) 0 0 else some 0))
set_option maxRecDepth 20000 in
set_option maxHeartbeats 4000000 in
theorem e_Will_valueOf {xs : Nat → Int32} {L : Nat} {al : Bool} (N : Nat) {d : Nat} (hd : 1 ≤ d) {S : St} (hSh : ShC S) {x0 : Nat} {x1 : Int32} {x2 : Int64} {x4 : Int32} (hx0 : x0 ∈ wKl) {m : Mm} {r0 : Int32} (h : f_Will_valueOf N S x0 x1 x2 x4 m = some r0) : Ev xs L al d 58 [.ref x0, .int x1, .long x2, .int x4] (m, S) (some (.int r0)) (m, S) := by
  obtain ⟨d, rfl⟩ : ∃ e, d = e + 1 := ⟨d - 1, by omega⟩
  refine ev_of (by decide) (Nat.le_of_ble_eq_true rfl) ?_
  rw [f_Will_valueOf] at h
  show RN xs L al (Ev xs L al d) 58 0 [(0, .ref x0), (1, .int x1), (2, .long x2), (4, .int x4)] [] (m, S) (some (.int r0)) (m, S)
  refine rsn 1 (t := (1, [(0, .ref x0), (1, .int x1), (2, .long x2), (4, .int x4)], [.int x1])) rfl ?_
  by_cases c1 : x1 < 0
  · rw [if_pos c1] at h
    refine rjt (a := (12, [(0, .ref x0), (1, .int x1), (2, .long x2), (4, .int x4)], [])) (b := (4, [(0, .ref x0), (1, .int x1), (2, .long x2), (4, .int x4)], [])) rfl rfl c1 ?_
    refine rsn 1 (t := (13, [(0, .ref x0), (1, .int x1), (2, .long x2), (4, .int x4)], [.int 0])) rfl ?_
    have h := Option.some.inj h
    subst h
    exact rret rfl ⟨rfl, rfl, _, _, rfl, rfl, rfl, rfl⟩
  · rw [if_neg c1] at h
    refine rjf (a := (12, [(0, .ref x0), (1, .int x1), (2, .long x2), (4, .int x4)], [])) (b := (4, [(0, .ref x0), (1, .int x1), (2, .long x2), (4, .int x4)], [])) rfl rfl c1 ?_
    refine rsn 2 (t := (6, [(0, .ref x0), (1, .int x1), (2, .long x2), (4, .int x4)], [.ref x0, .int x1])) rfl ?_
    refine pgI rfl rfl rfl (hSh.kW hx0 _) ?_
    show RN xs L al (Ev xs L al d) 58 9 [(0, .ref x0), (1, .int x1), (2, .long x2), (4, .int x4)] [.int ((mI m x0 0)), .int x1] (m, S) (some (.int r0)) (m, S)
    by_cases c2 : x1 < ((mI m x0 0))
    · rw [if_pos c2] at h
      refine rjt (a := (14, [(0, .ref x0), (1, .int x1), (2, .long x2), (4, .int x4)], [])) (b := (12, [(0, .ref x0), (1, .int x1), (2, .long x2), (4, .int x4)], [])) rfl rfl c2 ?_
      refine rsn 8 (t := (24, [(5, .int ((x1 * 3))), (0, .ref x0), (1, .int x1), (2, .long x2), (4, .int x4)], [.int ((3 * x4)), .long x2])) rfl ?_
      refine rsn 1 (t := (25, [(5, .int ((x1 * 3))), (0, .ref x0), (1, .int x1), (2, .long x2), (4, .int x4)], [.long ((lus x2 ((3 * x4))))])) rfl ?_
      refine rsn 5 (t := (33, [(9, .int 0), (8, .int 0), (6, .long ((lus x2 ((3 * x4))))), (5, .int ((x1 * 3))), (0, .ref x0), (1, .int x1), (2, .long x2), (4, .int x4)], [])) rfl ?_
      have ex33 : ∀ (z5_6 : Int64) (z5_8 : Int32) (z5_9 : Int32), (some z5_8) = some r0 → RN xs L al (Ev xs L al d) 58 74 [(8, .int z5_8)] [] (m, S) (some (.int r0)) (m, S) := by
        intro z5_6 z5_8 z5_9 h
        try dsimp only at h
        refine rsn 1 (t := (76, [(8, .int z5_8)], [.int z5_8])) rfl ?_
        have h := Option.some.inj h
        subst h
        exact rret rfl ⟨rfl, rfl, _, _, rfl, rfl, rfl, rfl⟩
      have lp33 : ∀ (n : Nat) (y6_6 : Int64) (y6_8 : Int32) (y6_9 : Int32), (f_Will_valueOf_L33 N S x0 ((x1 * 3)) m (fun (z5_6 : Int64) (z5_8 : Int32) (z5_9 : Int32) => some z5_8) n y6_6 y6_8 y6_9) = some r0 → RN xs L al (Ev xs L al d) 58 33 [(0, .ref x0), (5, .int ((x1 * 3))), (6, .long y6_6), (8, .int y6_8), (9, .int y6_9)] [] (m, S) (some (.int r0)) (m, S) := by
        intro n
        induction n with
        | zero => intro y6_6 y6_8 y6_9 h; exact absurd h (by simp [f_Will_valueOf_L33])
        | succ n33 ih33 =>
          intro y6_6 y6_8 y6_9 h
          try dsimp only at h
          rw [f_Will_valueOf_L33] at h
          try dsimp only at h
          refine rsn 2 (t := (36, [(0, .ref x0), (5, .int ((x1 * 3))), (6, .long y6_6), (8, .int y6_8), (9, .int y6_9)], [.int 3, .int y6_9])) rfl ?_
          by_cases c7 : 3 ≤ y6_9
          · rw [if_pos c7] at h
            refine rjt (a := (74, [(0, .ref x0), (5, .int ((x1 * 3))), (6, .long y6_6), (8, .int y6_8), (9, .int y6_9)], [])) (b := (39, [(0, .ref x0), (5, .int ((x1 * 3))), (6, .long y6_6), (8, .int y6_8), (9, .int y6_9)], [])) rfl rfl c7 ?_
            exact rsub [(8, .int y6_8)] ⟨rfl, trivial⟩ ⟨rfl, trivial⟩ (ex33 y6_6 y6_8 y6_9 h)
          · rw [if_neg c7] at h
            refine rjf (a := (74, [(0, .ref x0), (5, .int ((x1 * 3))), (6, .long y6_6), (8, .int y6_8), (9, .int y6_9)], [])) (b := (39, [(0, .ref x0), (5, .int ((x1 * 3))), (6, .long y6_6), (8, .int y6_8), (9, .int y6_9)], [])) rfl rfl c7 ?_
            refine rsn 2 (t := (42, [(0, .ref x0), (5, .int ((x1 * 3))), (6, .long y6_6), (8, .int y6_8), (9, .int y6_9)], [.ref x0, .int y6_8])) rfl ?_
            refine rgR rfl rfl rfl (hSh.kW hx0 _) (hSh.rWa2 hx0 _) ?_
            refine rsn 3 (t := (50, [(0, .ref x0), (5, .int ((x1 * 3))), (6, .long y6_6), (8, .int y6_8), (9, .int y6_9)], [.int ((((x1 * 3)) + y6_9)), .ref ((x0 + 2)), .int y6_8])) rfl ?_
            obtain ⟨c8, h⟩ := ck_some h
            refine pxI rfl (hSh.kWa2 hx0 _) (hSh.lWa2 hx0 _) c8 ?_
            show RN xs L al (Ev xs L al d) 58 51 [(0, .ref x0), (5, .int ((x1 * 3))), (6, .long y6_6), (8, .int y6_8), (9, .int y6_9)] [.int ((mX m ((x0 + 2)) (((((x1 * 3)) + y6_9)).toNatClampNeg))), .int y6_8] (m, S) (some (.int r0)) (m, S)
            refine rsn 9 (t := (65, [(8, .int ((y6_8 + ((((mX m ((x0 + 2)) (((((x1 * 3)) + y6_9)).toNatClampNeg))) * ((y6_6.toInt32 &&& 7))))))), (0, .ref x0), (5, .int ((x1 * 3))), (6, .long y6_6), (9, .int y6_9)], [.int 12, .long y6_6])) rfl ?_
            refine rsn 1 (t := (66, [(8, .int ((y6_8 + ((((mX m ((x0 + 2)) (((((x1 * 3)) + y6_9)).toNatClampNeg))) * ((y6_6.toInt32 &&& 7))))))), (0, .ref x0), (5, .int ((x1 * 3))), (6, .long y6_6), (9, .int y6_9)], [.long ((lus y6_6 12))])) rfl ?_
            refine rsn 3 (t := (33, [(9, .int ((y6_9 + 1))), (6, .long ((lus y6_6 12))), (8, .int ((y6_8 + ((((mX m ((x0 + 2)) (((((x1 * 3)) + y6_9)).toNatClampNeg))) * ((y6_6.toInt32 &&& 7))))))), (0, .ref x0), (5, .int ((x1 * 3)))], [])) rfl ?_
            exact rsub [(0, .ref x0), (5, .int ((x1 * 3))), (6, .long ((lus y6_6 12))), (8, .int ((y6_8 + ((((mX m ((x0 + 2)) (((((x1 * 3)) + y6_9)).toNatClampNeg))) * ((y6_6.toInt32 &&& 7))))))), (9, .int ((y6_9 + 1)))] ⟨rfl, ⟨rfl, ⟨rfl, ⟨rfl, ⟨rfl, trivial⟩⟩⟩⟩⟩ ⟨rfl, ⟨rfl, ⟨rfl, ⟨rfl, ⟨rfl, trivial⟩⟩⟩⟩⟩ (ih33 ((lus y6_6 12)) ((y6_8 + ((((mX m ((x0 + 2)) (((((x1 * 3)) + y6_9)).toNatClampNeg))) * ((y6_6.toInt32 &&& 7)))))) ((y6_9 + 1)) h)
      exact rsub [(0, .ref x0), (5, .int ((x1 * 3))), (6, .long ((lus x2 ((3 * x4))))), (8, .int 0), (9, .int 0)] ⟨rfl, ⟨rfl, ⟨rfl, ⟨rfl, ⟨rfl, trivial⟩⟩⟩⟩⟩ ⟨rfl, ⟨rfl, ⟨rfl, ⟨rfl, ⟨rfl, trivial⟩⟩⟩⟩⟩ (lp33 N ((lus x2 ((3 * x4)))) 0 0 h)
    · rw [if_neg c2] at h
      refine rjf (a := (14, [(0, .ref x0), (1, .int x1), (2, .long x2), (4, .int x4)], [])) (b := (12, [(0, .ref x0), (1, .int x1), (2, .long x2), (4, .int x4)], [])) rfl rfl c2 ?_
      refine rsn 1 (t := (13, [(0, .ref x0), (1, .int x1), (2, .long x2), (4, .int x4)], [.int 0])) rfl ?_
      have h := Option.some.inj h
      subst h
      exact rret rfl ⟨rfl, rfl, _, _, rfl, rfl, rfl, rfl⟩
def f_SC_heir (N : Nat) (S : St) (x1 : Int32) (x2 : Int32) (m : Mm) : Option (Int32) := (if ((mI m 0 6)) = 0 then some ((-1)) else b1 (f_Will_isHeir N S 10 x1 m) fun r2 => (if r2 = 0 then some ((-1)) else (if x2 = 0 then b1 (f_State_isThere N ((mJ m 0 7)) x1) fun r13 => (if r13 = 0 then some 0 else some 1) else (jn (fun (_ : Unit) => (jn (fun (_ : Unit) => (if x2 = 7 then b1 (f_Will_valueOf N S 10 x1 ((mJ m 0 7)) x1 m) fun r6 => some r6 else some ((-1)))) (fun j86 => if x2 < 4 then j86 () else (if 6 < x2 then j86 () else b1 (f_State_amount N ((mJ m 0 7)) ((x2 - 4)) x1) fun r9 => some r9)))) (fun j63 => if x2 < 1 then j63 () else (if 3 < x2 then j63 () else b1 (f_Will_worth N S 10 x1 ((x2 - 1)) m) fun r12 => some r12))))))
set_option maxRecDepth 20000 in
set_option maxHeartbeats 4000000 in
theorem e_SC_heir {xs : Nat → Int32} {L : Nat} {al : Bool} (N : Nat) {d : Nat} (hd : 3 ≤ d) {S : St} (hSh : ShC S) {x1 : Int32} {x2 : Int32} {m : Mm} {r0 : Int32} (h : f_SC_heir N S x1 x2 m = some r0) : Ev xs L al d 52 [.ref 0, .int x1, .int x2] (m, S) (some (.int r0)) (m, S) := by
  obtain ⟨d, rfl⟩ : ∃ e, d = e + 1 := ⟨d - 1, by omega⟩
  refine ev_of (by decide) (Nat.le_of_ble_eq_true rfl) ?_
  rw [f_SC_heir] at h
  show RN xs L al (Ev xs L al d) 52 0 [(0, .ref 0), (1, .int x1), (2, .int x2)] [] (m, S) (some (.int r0)) (m, S)
  refine rsn 1 (t := (1, [(0, .ref 0), (1, .int x1), (2, .int x2)], [.ref 0])) rfl ?_
  refine pgI rfl rfl rfl (hSh.1.k 0 rfl _) ?_
  show RN xs L al (Ev xs L al d) 52 4 [(0, .ref 0), (1, .int x1), (2, .int x2)] [.int ((mI m 0 6))] (m, S) (some (.int r0)) (m, S)
  by_cases c1 : ((mI m 0 6)) = 0
  · rw [if_pos c1] at h
    refine rjt (a := (18, [(0, .ref 0), (1, .int x1), (2, .int x2)], [])) (b := (7, [(0, .ref 0), (1, .int x1), (2, .int x2)], [])) rfl rfl c1 ?_
    refine rsn 1 (t := (19, [(0, .ref 0), (1, .int x1), (2, .int x2)], [.int ((-1))])) rfl ?_
    have h := Option.some.inj h
    subst h
    exact rret rfl ⟨rfl, rfl, _, _, rfl, rfl, rfl, rfl⟩
  · rw [if_neg c1] at h
    refine rjf (a := (18, [(0, .ref 0), (1, .int x1), (2, .int x2)], [])) (b := (7, [(0, .ref 0), (1, .int x1), (2, .int x2)], [])) rfl rfl c1 ?_
    refine rsn 1 (t := (8, [(0, .ref 0), (1, .int x1), (2, .int x2)], [.ref 0])) rfl ?_
    refine rgR rfl rfl rfl (hSh.1.k 0 rfl _) (hSh.1.r 88 rfl _) ?_
    refine rsn 1 (t := (12, [(0, .ref 0), (1, .int x1), (2, .int x2)], [.int x1, .ref 10])) rfl ?_
    obtain ⟨r2, g2, h⟩ := b1_some h
    refine rcV 53 10 [.int x1] rfl rfl rfl (hSh.1.k 10 rfl _) (Nat.le_of_ble_eq_true rfl) rfl (e_Will_isHeir N (by omega) hSh (by decide) g2) ?_
    show RN xs L al (Ev xs L al d) 52 15 [(0, .ref 0), (1, .int x1), (2, .int x2)] [.int r2] (m, S) (some (.int r0)) (m, S)
    by_cases c3 : r2 = 0
    · rw [if_pos c3] at h
      refine rjf (a := (20, [(0, .ref 0), (1, .int x1), (2, .int x2)], [])) (b := (18, [(0, .ref 0), (1, .int x1), (2, .int x2)], [])) rfl rfl (fun q => q c3) ?_
      refine rsn 1 (t := (19, [(0, .ref 0), (1, .int x1), (2, .int x2)], [.int ((-1))])) rfl ?_
      have h := Option.some.inj h
      subst h
      exact rret rfl ⟨rfl, rfl, _, _, rfl, rfl, rfl, rfl⟩
    · rw [if_neg c3] at h
      refine rjt (a := (20, [(0, .ref 0), (1, .int x1), (2, .int x2)], [])) (b := (18, [(0, .ref 0), (1, .int x1), (2, .int x2)], [])) rfl rfl c3 ?_
      refine rsn 1 (t := (21, [(0, .ref 0), (1, .int x1), (2, .int x2)], [.int x2])) rfl ?_
      by_cases c4 : x2 = 0
      · rw [if_pos c4] at h
        refine rjf (a := (41, [(0, .ref 0), (1, .int x1), (2, .int x2)], [])) (b := (24, [(0, .ref 0), (1, .int x1), (2, .int x2)], [])) rfl rfl (fun q => q c4) ?_
        refine rsn 1 (t := (25, [(0, .ref 0), (1, .int x1), (2, .int x2)], [.ref 0])) rfl ?_
        refine pgJ rfl rfl rfl (hSh.1.k 0 rfl _) ?_
        show RN xs L al (Ev xs L al d) 52 28 [(0, .ref 0), (1, .int x1), (2, .int x2)] [.long ((mJ m 0 7))] (m, S) (some (.int r0)) (m, S)
        refine rsn 1 (t := (29, [(0, .ref 0), (1, .int x1), (2, .int x2)], [.int x1, .long ((mJ m 0 7))])) rfl ?_
        obtain ⟨r13, g13, h⟩ := b1_some h
        refine rcS 54 [.long ((mJ m 0 7)), .int x1] rfl rfl rfl (Nat.le_of_ble_eq_true rfl) rfl (e_State_isThere N (by omega) g13) ?_
        show RN xs L al (Ev xs L al d) 52 32 [(0, .ref 0), (1, .int x1), (2, .int x2)] [.int r13] (m, S) (some (.int r0)) (m, S)
        by_cases c14 : r13 = 0
        · rw [if_pos c14] at h
          refine rjt (a := (39, [(0, .ref 0), (1, .int x1), (2, .int x2)], [])) (b := (35, [(0, .ref 0), (1, .int x1), (2, .int x2)], [])) rfl rfl c14 ?_
          refine rsn 1 (t := (40, [(0, .ref 0), (1, .int x1), (2, .int x2)], [.int 0])) rfl ?_
          have h := Option.some.inj h
          subst h
          exact rret rfl ⟨rfl, rfl, _, _, rfl, rfl, rfl, rfl⟩
        · rw [if_neg c14] at h
          refine rjf (a := (39, [(0, .ref 0), (1, .int x1), (2, .int x2)], [])) (b := (35, [(0, .ref 0), (1, .int x1), (2, .int x2)], [])) rfl rfl c14 ?_
          refine rsn 2 (t := (40, [(0, .ref 0), (1, .int x1), (2, .int x2)], [.int 1])) rfl ?_
          have h := Option.some.inj h
          subst h
          exact rret rfl ⟨rfl, rfl, _, _, rfl, rfl, rfl, rfl⟩
      · rw [if_neg c4] at h
        refine rjt (a := (41, [(0, .ref 0), (1, .int x1), (2, .int x2)], [])) (b := (24, [(0, .ref 0), (1, .int x1), (2, .int x2)], [])) rfl rfl c4 ?_
        refine rsn 2 (t := (43, [(0, .ref 0), (1, .int x1), (2, .int x2)], [.int 1, .int x2])) rfl ?_
        have jp63 : ∀ (_ : Unit), ((jn (fun (_ : Unit) => (if x2 = 7 then b1 (f_Will_valueOf N S 10 x1 ((mJ m 0 7)) x1 m) fun r6 => some r6 else some ((-1)))) (fun j86 => if x2 < 4 then j86 () else (if 6 < x2 then j86 () else b1 (f_State_amount N ((mJ m 0 7)) ((x2 - 4)) x1) fun r9 => some r9)))) = some r0 → RN xs L al (Ev xs L al d) 52 63 [(0, .ref 0), (1, .int x1), (2, .int x2)] [] (m, S) (some (.int r0)) (m, S) := by
          intro _ h
          try dsimp only at h
          refine rsn 2 (t := (65, [(0, .ref 0), (1, .int x1), (2, .int x2)], [.int 4, .int x2])) rfl ?_
          have jp86 : ∀ (_ : Unit), ((if x2 = 7 then b1 (f_Will_valueOf N S 10 x1 ((mJ m 0 7)) x1 m) fun r6 => some r6 else some ((-1)))) = some r0 → RN xs L al (Ev xs L al d) 52 86 [(0, .ref 0), (1, .int x1), (2, .int x2)] [] (m, S) (some (.int r0)) (m, S) := by
            intro _ h
            try dsimp only at h
            refine rsn 2 (t := (89, [(0, .ref 0), (1, .int x1), (2, .int x2)], [.int 7, .int x2])) rfl ?_
            by_cases c5 : x2 = 7
            · rw [if_pos c5] at h
              refine rjf (a := (108, [(0, .ref 0), (1, .int x1), (2, .int x2)], [])) (b := (92, [(0, .ref 0), (1, .int x1), (2, .int x2)], [])) rfl rfl (fun q => q c5) ?_
              refine rsn 1 (t := (93, [(0, .ref 0), (1, .int x1), (2, .int x2)], [.ref 0])) rfl ?_
              refine rgR rfl rfl rfl (hSh.1.k 0 rfl _) (hSh.1.r 88 rfl _) ?_
              refine rsn 2 (t := (98, [(0, .ref 0), (1, .int x1), (2, .int x2)], [.ref 0, .int x1, .ref 10])) rfl ?_
              refine pgJ rfl rfl rfl (hSh.1.k 0 rfl _) ?_
              show RN xs L al (Ev xs L al d) 52 101 [(0, .ref 0), (1, .int x1), (2, .int x2)] [.long ((mJ m 0 7)), .int x1, .ref 10] (m, S) (some (.int r0)) (m, S)
              refine rsn 1 (t := (102, [(0, .ref 0), (1, .int x1), (2, .int x2)], [.int x1, .long ((mJ m 0 7)), .int x1, .ref 10])) rfl ?_
              obtain ⟨r6, g6, h⟩ := b1_some h
              refine rcV 58 10 [.int x1, .long ((mJ m 0 7)), .int x1] rfl rfl rfl (hSh.1.k 10 rfl _) (Nat.le_of_ble_eq_true rfl) rfl (e_Will_valueOf N (by omega) hSh (by decide) g6) ?_
              show RN xs L al (Ev xs L al d) 52 105 [(0, .ref 0), (1, .int x1), (2, .int x2)] [.int r6] (m, S) (some (.int r0)) (m, S)
              refine rsn 1 (t := (109, [(0, .ref 0), (1, .int x1), (2, .int x2)], [.int r6])) rfl ?_
              have h := Option.some.inj h
              subst h
              exact rret rfl ⟨rfl, rfl, _, _, rfl, rfl, rfl, rfl⟩
            · rw [if_neg c5] at h
              refine rjt (a := (108, [(0, .ref 0), (1, .int x1), (2, .int x2)], [])) (b := (92, [(0, .ref 0), (1, .int x1), (2, .int x2)], [])) rfl rfl c5 ?_
              refine rsn 1 (t := (109, [(0, .ref 0), (1, .int x1), (2, .int x2)], [.int ((-1))])) rfl ?_
              have h := Option.some.inj h
              subst h
              exact rret rfl ⟨rfl, rfl, _, _, rfl, rfl, rfl, rfl⟩
          rw [jn] at h
          try dsimp only at h
          by_cases c7 : x2 < 4
          · rw [if_pos c7] at h
            refine rjt (a := (86, [(0, .ref 0), (1, .int x1), (2, .int x2)], [])) (b := (68, [(0, .ref 0), (1, .int x1), (2, .int x2)], [])) rfl rfl c7 ?_
            exact rsub [(0, .ref 0), (1, .int x1), (2, .int x2)] ⟨rfl, ⟨rfl, ⟨rfl, trivial⟩⟩⟩ ⟨rfl, ⟨rfl, ⟨rfl, trivial⟩⟩⟩ (jp86 () h)
          · rw [if_neg c7] at h
            refine rjf (a := (86, [(0, .ref 0), (1, .int x1), (2, .int x2)], [])) (b := (68, [(0, .ref 0), (1, .int x1), (2, .int x2)], [])) rfl rfl c7 ?_
            refine rsn 2 (t := (71, [(0, .ref 0), (1, .int x1), (2, .int x2)], [.int 6, .int x2])) rfl ?_
            by_cases c8 : 6 < x2
            · rw [if_pos c8] at h
              refine rjt (a := (86, [(0, .ref 0), (1, .int x1), (2, .int x2)], [])) (b := (74, [(0, .ref 0), (1, .int x1), (2, .int x2)], [])) rfl rfl c8 ?_
              exact rsub [(0, .ref 0), (1, .int x1), (2, .int x2)] ⟨rfl, ⟨rfl, ⟨rfl, trivial⟩⟩⟩ ⟨rfl, ⟨rfl, ⟨rfl, trivial⟩⟩⟩ (jp86 () h)
            · rw [if_neg c8] at h
              refine rjf (a := (86, [(0, .ref 0), (1, .int x1), (2, .int x2)], [])) (b := (74, [(0, .ref 0), (1, .int x1), (2, .int x2)], [])) rfl rfl c8 ?_
              refine rsn 1 (t := (75, [(0, .ref 0), (1, .int x1), (2, .int x2)], [.ref 0])) rfl ?_
              refine pgJ rfl rfl rfl (hSh.1.k 0 rfl _) ?_
              show RN xs L al (Ev xs L al d) 52 78 [(0, .ref 0), (1, .int x1), (2, .int x2)] [.long ((mJ m 0 7))] (m, S) (some (.int r0)) (m, S)
              refine rsn 4 (t := (82, [(0, .ref 0), (1, .int x1), (2, .int x2)], [.int x1, .int ((x2 - 4)), .long ((mJ m 0 7))])) rfl ?_
              obtain ⟨r9, g9, h⟩ := b1_some h
              refine rcS 57 [.long ((mJ m 0 7)), .int ((x2 - 4)), .int x1] rfl rfl rfl (Nat.le_of_ble_eq_true rfl) rfl (e_State_amount N (by omega) g9) ?_
              show RN xs L al (Ev xs L al d) 52 85 [(0, .ref 0), (1, .int x1), (2, .int x2)] [.int r9] (m, S) (some (.int r0)) (m, S)
              have h := Option.some.inj h
              subst h
              exact rret rfl ⟨rfl, rfl, _, _, rfl, rfl, rfl, rfl⟩
        rw [jn] at h
        try dsimp only at h
        by_cases c10 : x2 < 1
        · rw [if_pos c10] at h
          refine rjt (a := (63, [(0, .ref 0), (1, .int x1), (2, .int x2)], [])) (b := (46, [(0, .ref 0), (1, .int x1), (2, .int x2)], [])) rfl rfl c10 ?_
          exact rsub [(0, .ref 0), (1, .int x1), (2, .int x2)] ⟨rfl, ⟨rfl, ⟨rfl, trivial⟩⟩⟩ ⟨rfl, ⟨rfl, ⟨rfl, trivial⟩⟩⟩ (jp63 () h)
        · rw [if_neg c10] at h
          refine rjf (a := (63, [(0, .ref 0), (1, .int x1), (2, .int x2)], [])) (b := (46, [(0, .ref 0), (1, .int x1), (2, .int x2)], [])) rfl rfl c10 ?_
          refine rsn 2 (t := (48, [(0, .ref 0), (1, .int x1), (2, .int x2)], [.int 3, .int x2])) rfl ?_
          by_cases c11 : 3 < x2
          · rw [if_pos c11] at h
            refine rjt (a := (63, [(0, .ref 0), (1, .int x1), (2, .int x2)], [])) (b := (51, [(0, .ref 0), (1, .int x1), (2, .int x2)], [])) rfl rfl c11 ?_
            exact rsub [(0, .ref 0), (1, .int x1), (2, .int x2)] ⟨rfl, ⟨rfl, ⟨rfl, trivial⟩⟩⟩ ⟨rfl, ⟨rfl, ⟨rfl, trivial⟩⟩⟩ (jp63 () h)
          · rw [if_neg c11] at h
            refine rjf (a := (63, [(0, .ref 0), (1, .int x1), (2, .int x2)], [])) (b := (51, [(0, .ref 0), (1, .int x1), (2, .int x2)], [])) rfl rfl c11 ?_
            refine rsn 1 (t := (52, [(0, .ref 0), (1, .int x1), (2, .int x2)], [.ref 0])) rfl ?_
            refine rgR rfl rfl rfl (hSh.1.k 0 rfl _) (hSh.1.r 88 rfl _) ?_
            refine rsn 4 (t := (59, [(0, .ref 0), (1, .int x1), (2, .int x2)], [.int ((x2 - 1)), .int x1, .ref 10])) rfl ?_
            obtain ⟨r12, g12, h⟩ := b1_some h
            refine rcV 56 10 [.int x1, .int ((x2 - 1))] rfl rfl rfl (hSh.1.k 10 rfl _) (Nat.le_of_ble_eq_true rfl) rfl (e_Will_worth N (by omega) hSh (by decide) g12) ?_
            show RN xs L al (Ev xs L al d) 52 62 [(0, .ref 0), (1, .int x1), (2, .int x2)] [.int r12] (m, S) (some (.int r0)) (m, S)
            have h := Option.some.inj h
            subst h
            exact rret rfl ⟨rfl, rfl, _, _, rfl, rfl, rfl, rfl⟩
def f_Will_chance (N : Nat) (S : St) (x0 : Nat) (x1 : Int32) (x2 : Int32) (m : Mm) : Option (Int32) := b1 (f_Will_isAlt N S x0 x1 x2 m) fun r1 => (if r1 = 0 then some 0 else ck (ix ((((x1 * 3)) + x2)) 18) (some ((mX m ((x0 + 4)) (((((x1 * 3)) + x2)).toNatClampNeg)))))
set_option maxRecDepth 20000 in
set_option maxHeartbeats 4000000 in
theorem e_Will_chance {xs : Nat → Int32} {L : Nat} {al : Bool} (N : Nat) {d : Nat} (hd : 2 ≤ d) {S : St} (hSh : ShC S) {x0 : Nat} {x1 : Int32} {x2 : Int32} (hx0 : x0 ∈ wKl) {m : Mm} {r0 : Int32} (h : f_Will_chance N S x0 x1 x2 m = some r0) : Ev xs L al d 60 [.ref x0, .int x1, .int x2] (m, S) (some (.int r0)) (m, S) := by
  obtain ⟨d, rfl⟩ : ∃ e, d = e + 1 := ⟨d - 1, by omega⟩
  refine ev_of (by decide) (Nat.le_of_ble_eq_true rfl) ?_
  rw [f_Will_chance] at h
  show RN xs L al (Ev xs L al d) 60 0 [(0, .ref x0), (1, .int x1), (2, .int x2)] [] (m, S) (some (.int r0)) (m, S)
  refine rsn 3 (t := (3, [(0, .ref x0), (1, .int x1), (2, .int x2)], [.int x2, .int x1, .ref x0])) rfl ?_
  obtain ⟨r1, g1, h⟩ := b1_some h
  refine rcV 50 x0 [.int x1, .int x2] rfl rfl rfl (hSh.kW hx0 _) (Nat.le_of_ble_eq_true rfl) rfl (e_Will_isAlt N (by omega) hSh hx0 g1) ?_
  show RN xs L al (Ev xs L al d) 60 6 [(0, .ref x0), (1, .int x1), (2, .int x2)] [.int r1] (m, S) (some (.int r0)) (m, S)
  by_cases c2 : r1 = 0
  · rw [if_pos c2] at h
    refine rjt (a := (22, [(0, .ref x0), (1, .int x1), (2, .int x2)], [])) (b := (9, [(0, .ref x0), (1, .int x1), (2, .int x2)], [])) rfl rfl c2 ?_
    refine rsn 1 (t := (23, [(0, .ref x0), (1, .int x1), (2, .int x2)], [.int 0])) rfl ?_
    have h := Option.some.inj h
    subst h
    exact rret rfl ⟨rfl, rfl, _, _, rfl, rfl, rfl, rfl⟩
  · rw [if_neg c2] at h
    refine rjf (a := (22, [(0, .ref x0), (1, .int x1), (2, .int x2)], [])) (b := (9, [(0, .ref x0), (1, .int x1), (2, .int x2)], [])) rfl rfl c2 ?_
    refine rsn 1 (t := (10, [(0, .ref x0), (1, .int x1), (2, .int x2)], [.ref x0])) rfl ?_
    refine rgR rfl rfl rfl (hSh.kW hx0 _) (hSh.rWa4 hx0 _) ?_
    refine rsn 5 (t := (18, [(0, .ref x0), (1, .int x1), (2, .int x2)], [.int ((((x1 * 3)) + x2)), .ref ((x0 + 4))])) rfl ?_
    obtain ⟨c3, h⟩ := ck_some h
    refine pxI rfl (hSh.kWa4 hx0 _) (hSh.lWa4 hx0 _) c3 ?_
    show RN xs L al (Ev xs L al d) 60 19 [(0, .ref x0), (1, .int x1), (2, .int x2)] [.int ((mX m ((x0 + 4)) (((((x1 * 3)) + x2)).toNatClampNeg)))] (m, S) (some (.int r0)) (m, S)
    refine rsn 1 (t := (23, [(0, .ref x0), (1, .int x1), (2, .int x2)], [.int ((mX m ((x0 + 4)) (((((x1 * 3)) + x2)).toNatClampNeg)))])) rfl ?_
    have h := Option.some.inj h
    subst h
    exact rret rfl ⟨rfl, rfl, _, _, rfl, rfl, rfl, rfl⟩
def f_Will_target (N : Nat) (S : St) (x0 : Nat) (x1 : Int32) (x2 : Int32) (m : Mm) : Option (Int32) := b1 (f_Will_isAlt N S x0 x1 x2 m) fun r1 => (if r1 = 0 then some ((-1)) else ck (ix ((((x1 * 3)) + x2)) 18) (some ((mX m ((x0 + 6)) (((((x1 * 3)) + x2)).toNatClampNeg)))))
set_option maxRecDepth 20000 in
set_option maxHeartbeats 4000000 in
theorem e_Will_target {xs : Nat → Int32} {L : Nat} {al : Bool} (N : Nat) {d : Nat} (hd : 2 ≤ d) {S : St} (hSh : ShC S) {x0 : Nat} {x1 : Int32} {x2 : Int32} (hx0 : x0 ∈ wKl) {m : Mm} {r0 : Int32} (h : f_Will_target N S x0 x1 x2 m = some r0) : Ev xs L al d 61 [.ref x0, .int x1, .int x2] (m, S) (some (.int r0)) (m, S) := by
  obtain ⟨d, rfl⟩ : ∃ e, d = e + 1 := ⟨d - 1, by omega⟩
  refine ev_of (by decide) (Nat.le_of_ble_eq_true rfl) ?_
  rw [f_Will_target] at h
  show RN xs L al (Ev xs L al d) 61 0 [(0, .ref x0), (1, .int x1), (2, .int x2)] [] (m, S) (some (.int r0)) (m, S)
  refine rsn 3 (t := (3, [(0, .ref x0), (1, .int x1), (2, .int x2)], [.int x2, .int x1, .ref x0])) rfl ?_
  obtain ⟨r1, g1, h⟩ := b1_some h
  refine rcV 50 x0 [.int x1, .int x2] rfl rfl rfl (hSh.kW hx0 _) (Nat.le_of_ble_eq_true rfl) rfl (e_Will_isAlt N (by omega) hSh hx0 g1) ?_
  show RN xs L al (Ev xs L al d) 61 6 [(0, .ref x0), (1, .int x1), (2, .int x2)] [.int r1] (m, S) (some (.int r0)) (m, S)
  by_cases c2 : r1 = 0
  · rw [if_pos c2] at h
    refine rjt (a := (22, [(0, .ref x0), (1, .int x1), (2, .int x2)], [])) (b := (9, [(0, .ref x0), (1, .int x1), (2, .int x2)], [])) rfl rfl c2 ?_
    refine rsn 1 (t := (23, [(0, .ref x0), (1, .int x1), (2, .int x2)], [.int ((-1))])) rfl ?_
    have h := Option.some.inj h
    subst h
    exact rret rfl ⟨rfl, rfl, _, _, rfl, rfl, rfl, rfl⟩
  · rw [if_neg c2] at h
    refine rjf (a := (22, [(0, .ref x0), (1, .int x1), (2, .int x2)], [])) (b := (9, [(0, .ref x0), (1, .int x1), (2, .int x2)], [])) rfl rfl c2 ?_
    refine rsn 1 (t := (10, [(0, .ref x0), (1, .int x1), (2, .int x2)], [.ref x0])) rfl ?_
    refine rgR rfl rfl rfl (hSh.kW hx0 _) (hSh.rWa6 hx0 _) ?_
    refine rsn 5 (t := (18, [(0, .ref x0), (1, .int x1), (2, .int x2)], [.int ((((x1 * 3)) + x2)), .ref ((x0 + 6))])) rfl ?_
    obtain ⟨c3, h⟩ := ck_some h
    refine pxI rfl (hSh.kWa6 hx0 _) (hSh.lWa6 hx0 _) c3 ?_
    show RN xs L al (Ev xs L al d) 61 19 [(0, .ref x0), (1, .int x1), (2, .int x2)] [.int ((mX m ((x0 + 6)) (((((x1 * 3)) + x2)).toNatClampNeg)))] (m, S) (some (.int r0)) (m, S)
    refine rsn 1 (t := (23, [(0, .ref x0), (1, .int x1), (2, .int x2)], [.int ((mX m ((x0 + 6)) (((((x1 * 3)) + x2)).toNatClampNeg)))])) rfl ?_
    have h := Option.some.inj h
    subst h
    exact rret rfl ⟨rfl, rfl, _, _, rfl, rfl, rfl, rfl⟩
def f_SC_alt (N : Nat) (S : St) (x1 : Int32) (x2 : Int32) (x3 : Int32) (m : Mm) : Option (Int32) := (if ((mI m 0 6)) = 0 then some ((-1)) else b1 (f_Will_isAlt N S 10 x1 x2 m) fun r2 => (if r2 = 0 then some ((-1)) else (if x3 = 0 then b1 (f_Will_chance N S 10 x1 x2 m) fun r4 => some r4 else (if x3 = 1 then b1 (f_Will_kind N S 10 x1 x2 m) fun r5 => some r5 else (if x3 = 2 then b1 (f_Will_target N S 10 x1 x2 m) fun r6 => some r6 else some ((-1)))))))
set_option maxRecDepth 20000 in
set_option maxHeartbeats 4000000 in
theorem e_SC_alt {xs : Nat → Int32} {L : Nat} {al : Bool} (N : Nat) {d : Nat} (hd : 3 ≤ d) {S : St} (hSh : ShC S) {x1 : Int32} {x2 : Int32} {x3 : Int32} {m : Mm} {r0 : Int32} (h : f_SC_alt N S x1 x2 x3 m = some r0) : Ev xs L al d 59 [.ref 0, .int x1, .int x2, .int x3] (m, S) (some (.int r0)) (m, S) := by
  obtain ⟨d, rfl⟩ : ∃ e, d = e + 1 := ⟨d - 1, by omega⟩
  refine ev_of (by decide) (Nat.le_of_ble_eq_true rfl) ?_
  rw [f_SC_alt] at h
  show RN xs L al (Ev xs L al d) 59 0 [(0, .ref 0), (1, .int x1), (2, .int x2), (3, .int x3)] [] (m, S) (some (.int r0)) (m, S)
  refine rsn 1 (t := (1, [(0, .ref 0), (1, .int x1), (2, .int x2), (3, .int x3)], [.ref 0])) rfl ?_
  refine pgI rfl rfl rfl (hSh.1.k 0 rfl _) ?_
  show RN xs L al (Ev xs L al d) 59 4 [(0, .ref 0), (1, .int x1), (2, .int x2), (3, .int x3)] [.int ((mI m 0 6))] (m, S) (some (.int r0)) (m, S)
  by_cases c1 : ((mI m 0 6)) = 0
  · rw [if_pos c1] at h
    refine rjt (a := (19, [(0, .ref 0), (1, .int x1), (2, .int x2), (3, .int x3)], [])) (b := (7, [(0, .ref 0), (1, .int x1), (2, .int x2), (3, .int x3)], [])) rfl rfl c1 ?_
    refine rsn 1 (t := (20, [(0, .ref 0), (1, .int x1), (2, .int x2), (3, .int x3)], [.int ((-1))])) rfl ?_
    have h := Option.some.inj h
    subst h
    exact rret rfl ⟨rfl, rfl, _, _, rfl, rfl, rfl, rfl⟩
  · rw [if_neg c1] at h
    refine rjf (a := (19, [(0, .ref 0), (1, .int x1), (2, .int x2), (3, .int x3)], [])) (b := (7, [(0, .ref 0), (1, .int x1), (2, .int x2), (3, .int x3)], [])) rfl rfl c1 ?_
    refine rsn 1 (t := (8, [(0, .ref 0), (1, .int x1), (2, .int x2), (3, .int x3)], [.ref 0])) rfl ?_
    refine rgR rfl rfl rfl (hSh.1.k 0 rfl _) (hSh.1.r 88 rfl _) ?_
    refine rsn 2 (t := (13, [(0, .ref 0), (1, .int x1), (2, .int x2), (3, .int x3)], [.int x2, .int x1, .ref 10])) rfl ?_
    obtain ⟨r2, g2, h⟩ := b1_some h
    refine rcV 50 10 [.int x1, .int x2] rfl rfl rfl (hSh.1.k 10 rfl _) (Nat.le_of_ble_eq_true rfl) rfl (e_Will_isAlt N (by omega) hSh (by decide) g2) ?_
    show RN xs L al (Ev xs L al d) 59 16 [(0, .ref 0), (1, .int x1), (2, .int x2), (3, .int x3)] [.int r2] (m, S) (some (.int r0)) (m, S)
    by_cases c3 : r2 = 0
    · rw [if_pos c3] at h
      refine rjf (a := (21, [(0, .ref 0), (1, .int x1), (2, .int x2), (3, .int x3)], [])) (b := (19, [(0, .ref 0), (1, .int x1), (2, .int x2), (3, .int x3)], [])) rfl rfl (fun q => q c3) ?_
      refine rsn 1 (t := (20, [(0, .ref 0), (1, .int x1), (2, .int x2), (3, .int x3)], [.int ((-1))])) rfl ?_
      have h := Option.some.inj h
      subst h
      exact rret rfl ⟨rfl, rfl, _, _, rfl, rfl, rfl, rfl⟩
    · rw [if_neg c3] at h
      refine rjt (a := (21, [(0, .ref 0), (1, .int x1), (2, .int x2), (3, .int x3)], [])) (b := (19, [(0, .ref 0), (1, .int x1), (2, .int x2), (3, .int x3)], [])) rfl rfl c3 ?_
      refine rsn 1 (t := (22, [(0, .ref 0), (1, .int x1), (2, .int x2), (3, .int x3)], [.int x3])) rfl ?_
      by_cases c7 : x3 = 0
      · rw [if_pos c7] at h
        refine rs (t := (48, [(0, .ref 0), (1, .int x1), (2, .int x2), (3, .int x3)], [])) rfl (by rw [c7]; exact sw_i (pc := 22) (o := 26) ⟨by decide, by simp⟩ (by decide) (by decide)) ?_
        refine rsn 1 (t := (49, [(0, .ref 0), (1, .int x1), (2, .int x2), (3, .int x3)], [.ref 0])) rfl ?_
        refine rgR rfl rfl rfl (hSh.1.k 0 rfl _) (hSh.1.r 88 rfl _) ?_
        refine rsn 2 (t := (54, [(0, .ref 0), (1, .int x1), (2, .int x2), (3, .int x3)], [.int x2, .int x1, .ref 10])) rfl ?_
        obtain ⟨r4, g4, h⟩ := b1_some h
        refine rcV 60 10 [.int x1, .int x2] rfl rfl rfl (hSh.1.k 10 rfl _) (Nat.le_of_ble_eq_true rfl) rfl (e_Will_chance N (by omega) hSh (by decide) g4) ?_
        show RN xs L al (Ev xs L al d) 59 57 [(0, .ref 0), (1, .int x1), (2, .int x2), (3, .int x3)] [.int r4] (m, S) (some (.int r0)) (m, S)
        have h := Option.some.inj h
        subst h
        exact rret rfl ⟨rfl, rfl, _, _, rfl, rfl, rfl, rfl⟩
      rw [if_neg c7] at h
      by_cases c8 : x3 = 1
      · rw [if_pos c8] at h
        refine rs (t := (58, [(0, .ref 0), (1, .int x1), (2, .int x2), (3, .int x3)], [])) rfl (by rw [c8]; exact sw_i (pc := 22) (o := 36) ⟨by decide, by simp⟩ (by decide) (by decide)) ?_
        refine rsn 1 (t := (59, [(0, .ref 0), (1, .int x1), (2, .int x2), (3, .int x3)], [.ref 0])) rfl ?_
        refine rgR rfl rfl rfl (hSh.1.k 0 rfl _) (hSh.1.r 88 rfl _) ?_
        refine rsn 2 (t := (64, [(0, .ref 0), (1, .int x1), (2, .int x2), (3, .int x3)], [.int x2, .int x1, .ref 10])) rfl ?_
        obtain ⟨r5, g5, h⟩ := b1_some h
        refine rcV 49 10 [.int x1, .int x2] rfl rfl rfl (hSh.1.k 10 rfl _) (Nat.le_of_ble_eq_true rfl) rfl (e_Will_kind N (by omega) hSh (by decide) g5) ?_
        show RN xs L al (Ev xs L al d) 59 67 [(0, .ref 0), (1, .int x1), (2, .int x2), (3, .int x3)] [.int r5] (m, S) (some (.int r0)) (m, S)
        have h := Option.some.inj h
        subst h
        exact rret rfl ⟨rfl, rfl, _, _, rfl, rfl, rfl, rfl⟩
      rw [if_neg c8] at h
      by_cases c9 : x3 = 2
      · rw [if_pos c9] at h
        refine rs (t := (68, [(0, .ref 0), (1, .int x1), (2, .int x2), (3, .int x3)], [])) rfl (by rw [c9]; exact sw_i (pc := 22) (o := 46) ⟨by decide, by simp⟩ (by decide) (by decide)) ?_
        refine rsn 1 (t := (69, [(0, .ref 0), (1, .int x1), (2, .int x2), (3, .int x3)], [.ref 0])) rfl ?_
        refine rgR rfl rfl rfl (hSh.1.k 0 rfl _) (hSh.1.r 88 rfl _) ?_
        refine rsn 2 (t := (74, [(0, .ref 0), (1, .int x1), (2, .int x2), (3, .int x3)], [.int x2, .int x1, .ref 10])) rfl ?_
        obtain ⟨r6, g6, h⟩ := b1_some h
        refine rcV 61 10 [.int x1, .int x2] rfl rfl rfl (hSh.1.k 10 rfl _) (Nat.le_of_ble_eq_true rfl) rfl (e_Will_target N (by omega) hSh (by decide) g6) ?_
        show RN xs L al (Ev xs L al d) 59 77 [(0, .ref 0), (1, .int x1), (2, .int x2), (3, .int x3)] [.int r6] (m, S) (some (.int r0)) (m, S)
        have h := Option.some.inj h
        subst h
        exact rret rfl ⟨rfl, rfl, _, _, rfl, rfl, rfl, rfl⟩
      rw [if_neg c9] at h
      refine rs (t := (78, [(0, .ref 0), (1, .int x1), (2, .int x2), (3, .int x3)], [])) rfl (sw_d (pc := 22) ⟨by decide, by simp⟩ (sw_out (n := 2) (by intro i hi; match i, hi with | 0, _ => exact c7 | 1, _ => exact c8 | 2, _ => exact c9 | i + 3, hi => exact absurd hi (by omega)) (by decide))) ?_
      refine rsn 1 (t := (79, [(0, .ref 0), (1, .int x1), (2, .int x2), (3, .int x3)], [.int ((-1))])) rfl ?_
      have h := Option.some.inj h
      subst h
      exact rret rfl ⟨rfl, rfl, _, _, rfl, rfl, rfl, rfl⟩
def f_Will_thing (N : Nat) (S : St) (x0 : Nat) (x1 : Int32) (x2 : Int32) (m : Mm) : Option (Int32) := b1 (f_Will_kind N S x0 x1 x2 m) fun r1 => (if r1 = 0 then b1 (f_Will_target N S x0 x1 x2 m) fun r3 => some r3 else some ((-1)))
set_option maxRecDepth 20000 in
set_option maxHeartbeats 4000000 in
theorem e_Will_thing {xs : Nat → Int32} {L : Nat} {al : Bool} (N : Nat) {d : Nat} (hd : 3 ≤ d) {S : St} (hSh : ShC S) {x0 : Nat} {x1 : Int32} {x2 : Int32} (hx0 : x0 ∈ wKl) {m : Mm} {r0 : Int32} (h : f_Will_thing N S x0 x1 x2 m = some r0) : Ev xs L al d 64 [.ref x0, .int x1, .int x2] (m, S) (some (.int r0)) (m, S) := by
  obtain ⟨d, rfl⟩ : ∃ e, d = e + 1 := ⟨d - 1, by omega⟩
  refine ev_of (by decide) (Nat.le_of_ble_eq_true rfl) ?_
  rw [f_Will_thing] at h
  show RN xs L al (Ev xs L al d) 64 0 [(0, .ref x0), (1, .int x1), (2, .int x2)] [] (m, S) (some (.int r0)) (m, S)
  refine rsn 3 (t := (3, [(0, .ref x0), (1, .int x1), (2, .int x2)], [.int x2, .int x1, .ref x0])) rfl ?_
  obtain ⟨r1, g1, h⟩ := b1_some h
  refine rcV 49 x0 [.int x1, .int x2] rfl rfl rfl (hSh.kW hx0 _) (Nat.le_of_ble_eq_true rfl) rfl (e_Will_kind N (by omega) hSh hx0 g1) ?_
  show RN xs L al (Ev xs L al d) 64 6 [(0, .ref x0), (1, .int x1), (2, .int x2)] [.int r1] (m, S) (some (.int r0)) (m, S)
  by_cases c2 : r1 = 0
  · rw [if_pos c2] at h
    refine rjf (a := (18, [(0, .ref x0), (1, .int x1), (2, .int x2)], [])) (b := (9, [(0, .ref x0), (1, .int x1), (2, .int x2)], [])) rfl rfl (fun q => q c2) ?_
    refine rsn 3 (t := (12, [(0, .ref x0), (1, .int x1), (2, .int x2)], [.int x2, .int x1, .ref x0])) rfl ?_
    obtain ⟨r3, g3, h⟩ := b1_some h
    refine rcV 61 x0 [.int x1, .int x2] rfl rfl rfl (hSh.kW hx0 _) (Nat.le_of_ble_eq_true rfl) rfl (e_Will_target N (by omega) hSh hx0 g3) ?_
    show RN xs L al (Ev xs L al d) 64 15 [(0, .ref x0), (1, .int x1), (2, .int x2)] [.int r3] (m, S) (some (.int r0)) (m, S)
    refine rsn 1 (t := (19, [(0, .ref x0), (1, .int x1), (2, .int x2)], [.int r3])) rfl ?_
    have h := Option.some.inj h
    subst h
    exact rret rfl ⟨rfl, rfl, _, _, rfl, rfl, rfl, rfl⟩
  · rw [if_neg c2] at h
    refine rjt (a := (18, [(0, .ref x0), (1, .int x1), (2, .int x2)], [])) (b := (9, [(0, .ref x0), (1, .int x1), (2, .int x2)], [])) rfl rfl c2 ?_
    refine rsn 1 (t := (19, [(0, .ref x0), (1, .int x1), (2, .int x2)], [.int ((-1))])) rfl ?_
    have h := Option.some.inj h
    subst h
    exact rret rfl ⟨rfl, rfl, _, _, rfl, rfl, rfl, rfl⟩
def f_Will_passed (N : Nat) (S : St) (x0 : Nat) (x1 : Int64) (x3 : Int32) (x4 : Int32) (m : Mm) : Option (Int64) := b1 (f_Will_kind N S x0 x3 x4 m) fun r1 => (if r1 = 1 then b1 (f_Will_target N S x0 x3 x4 m) fun r3 => some ((((x1 + 549755813888)) ||| ((lsl 1 ((36 + r3)))))) else some ((x1 + 549755813888)))
set_option maxRecDepth 20000 in
set_option maxHeartbeats 4000000 in
theorem e_Will_passed {xs : Nat → Int32} {L : Nat} {al : Bool} (N : Nat) {d : Nat} (hd : 3 ≤ d) {S : St} (hSh : ShC S) {x0 : Nat} {x1 : Int64} {x3 : Int32} {x4 : Int32} (hx0 : x0 ∈ wKl) {m : Mm} {r0 : Int64} (h : f_Will_passed N S x0 x1 x3 x4 m = some r0) : Ev xs L al d 65 [.ref x0, .long x1, .int x3, .int x4] (m, S) (some (.long r0)) (m, S) := by
  obtain ⟨d, rfl⟩ : ∃ e, d = e + 1 := ⟨d - 1, by omega⟩
  refine ev_of (by decide) (Nat.le_of_ble_eq_true rfl) ?_
  rw [f_Will_passed] at h
  show RN xs L al (Ev xs L al d) 65 0 [(0, .ref x0), (1, .long x1), (3, .int x3), (4, .int x4)] [] (m, S) (some (.long r0)) (m, S)
  refine rsn 7 (t := (11, [(5, .long ((x1 + 549755813888))), (0, .ref x0), (1, .long x1), (3, .int x3), (4, .int x4)], [.int x4, .int x3, .ref x0])) rfl ?_
  obtain ⟨r1, g1, h⟩ := b1_some h
  refine rcV 49 x0 [.int x3, .int x4] rfl rfl rfl (hSh.kW hx0 _) (Nat.le_of_ble_eq_true rfl) rfl (e_Will_kind N (by omega) hSh hx0 g1) ?_
  show RN xs L al (Ev xs L al d) 65 14 [(5, .long ((x1 + 549755813888))), (0, .ref x0), (1, .long x1), (3, .int x3), (4, .int x4)] [.int r1] (m, S) (some (.long r0)) (m, S)
  refine rsn 1 (t := (15, [(5, .long ((x1 + 549755813888))), (0, .ref x0), (1, .long x1), (3, .int x3), (4, .int x4)], [.int 1, .int r1])) rfl ?_
  by_cases c2 : r1 = 1
  · rw [if_pos c2] at h
    refine rjf (a := (36, [(5, .long ((x1 + 549755813888))), (0, .ref x0), (1, .long x1), (3, .int x3), (4, .int x4)], [])) (b := (18, [(5, .long ((x1 + 549755813888))), (0, .ref x0), (1, .long x1), (3, .int x3), (4, .int x4)], [])) rfl rfl (fun q => q c2) ?_
    refine rsn 6 (t := (27, [(5, .long ((x1 + 549755813888))), (0, .ref x0), (1, .long x1), (3, .int x3), (4, .int x4)], [.int x4, .int x3, .ref x0, .int 36, .long 1, .long ((x1 + 549755813888))])) rfl ?_
    obtain ⟨r3, g3, h⟩ := b1_some h
    refine rcV 61 x0 [.int x3, .int x4] rfl rfl rfl (hSh.kW hx0 _) (Nat.le_of_ble_eq_true rfl) rfl (e_Will_target N (by omega) hSh hx0 g3) ?_
    show RN xs L al (Ev xs L al d) 65 30 [(5, .long ((x1 + 549755813888))), (0, .ref x0), (1, .long x1), (3, .int x3), (4, .int x4)] [.int r3, .int 36, .long 1, .long ((x1 + 549755813888))] (m, S) (some (.long r0)) (m, S)
    refine rsn 1 (t := (31, [(5, .long ((x1 + 549755813888))), (0, .ref x0), (1, .long x1), (3, .int x3), (4, .int x4)], [.int ((36 + r3)), .long 1, .long ((x1 + 549755813888))])) rfl ?_
    refine rsn 1 (t := (32, [(5, .long ((x1 + 549755813888))), (0, .ref x0), (1, .long x1), (3, .int x3), (4, .int x4)], [.long ((lsl 1 ((36 + r3)))), .long ((x1 + 549755813888))])) rfl ?_
    refine rsn 2 (t := (38, [(5, .long ((x1 + 549755813888))), (0, .ref x0), (1, .long x1), (3, .int x3), (4, .int x4)], [.long ((((x1 + 549755813888)) ||| ((lsl 1 ((36 + r3))))))])) rfl ?_
    have h := Option.some.inj h
    subst h
    exact rret rfl ⟨rfl, rfl, _, rfl, rfl, rfl⟩
  · rw [if_neg c2] at h
    refine rjt (a := (36, [(5, .long ((x1 + 549755813888))), (0, .ref x0), (1, .long x1), (3, .int x3), (4, .int x4)], [])) (b := (18, [(5, .long ((x1 + 549755813888))), (0, .ref x0), (1, .long x1), (3, .int x3), (4, .int x4)], [])) rfl rfl c2 ?_
    refine rsn 1 (t := (38, [(5, .long ((x1 + 549755813888))), (0, .ref x0), (1, .long x1), (3, .int x3), (4, .int x4)], [.long ((x1 + 549755813888))])) rfl ?_
    have h := Option.some.inj h
    subst h
    exact rret rfl ⟨rfl, rfl, _, rfl, rfl, rfl⟩
def f_SC_come (N : Nat) (S : St) (x1 : Int32) (m : Mm) : Option (Int32 × Mm) := b1 (f_State_dayOf N ((mJ m 0 7))) fun r1 => (if ((mI m 0 6)) = 0 then some ((-1), m) else (if ((mI m 0 8)) = ((-1)) then b1 (f_Will_isAlt N S 10 r1 x1 m) fun r4 => (if r4 = 0 then some ((-1), m) else b1 (f_Will_thing N S 10 r1 x1 m) fun r6 => b1 (f_Will_passed N S 10 ((mJ m 0 7)) r1 x1 (vI m 0 8 r6)) fun r7 => b1 (f_State_dayOf N r7) fun r8 => some (r8, (vJ (vI m 0 8 r6) 0 7 r7))) else some ((-1), m)))
set_option maxRecDepth 20000 in
set_option maxHeartbeats 4000000 in
theorem e_SC_come {xs : Nat → Int32} {L : Nat} {al : Bool} (N : Nat) {d : Nat} (hd : 4 ≤ d) {S : St} (hSh : ShC S) {x1 : Int32} {m : Mm} {r0 : Int32} {mf : Mm} (h : f_SC_come N S x1 m = some (r0, mf)) : Ev xs L al d 62 [.ref 0, .int x1] (m, S) (some (.int r0)) (mf, S) := by
  obtain ⟨d, rfl⟩ : ∃ e, d = e + 1 := ⟨d - 1, by omega⟩
  refine ev_of (by decide) (Nat.le_of_ble_eq_true rfl) ?_
  rw [f_SC_come] at h
  show RN xs L al (Ev xs L al d) 62 0 [(0, .ref 0), (1, .int x1)] [] (m, S) (some (.int r0)) (mf, S)
  refine rsn 1 (t := (1, [(0, .ref 0), (1, .int x1)], [.ref 0])) rfl ?_
  refine pgJ rfl rfl rfl (hSh.1.k 0 rfl _) ?_
  show RN xs L al (Ev xs L al d) 62 4 [(0, .ref 0), (1, .int x1)] [.long ((mJ m 0 7))] (m, S) (some (.int r0)) (mf, S)
  obtain ⟨r1, g1, h⟩ := b1_some h
  refine rcS 63 [.long ((mJ m 0 7))] rfl rfl rfl (Nat.le_of_ble_eq_true rfl) rfl (e_State_dayOf N (by omega) g1) ?_
  show RN xs L al (Ev xs L al d) 62 7 [(0, .ref 0), (1, .int x1)] [.int r1] (m, S) (some (.int r0)) (mf, S)
  refine rsn 2 (t := (9, [(2, .int r1), (0, .ref 0), (1, .int x1)], [.ref 0])) rfl ?_
  refine pgI rfl rfl rfl (hSh.1.k 0 rfl _) ?_
  show RN xs L al (Ev xs L al d) 62 12 [(2, .int r1), (0, .ref 0), (1, .int x1)] [.int ((mI m 0 6))] (m, S) (some (.int r0)) (mf, S)
  by_cases c2 : ((mI m 0 6)) = 0
  · rw [if_pos c2] at h
    refine rjt (a := (35, [(2, .int r1), (0, .ref 0), (1, .int x1)], [])) (b := (15, [(2, .int r1), (0, .ref 0), (1, .int x1)], [])) rfl rfl c2 ?_
    refine rsn 1 (t := (36, [(2, .int r1), (0, .ref 0), (1, .int x1)], [.int ((-1))])) rfl ?_
    obtain ⟨h, h2⟩ := Prod.mk.inj (Option.some.inj h)
    subst h
    subst h2
    exact rret rfl ⟨rfl, rfl, _, _, rfl, rfl, rfl, rfl⟩
  · rw [if_neg c2] at h
    refine rjf (a := (35, [(2, .int r1), (0, .ref 0), (1, .int x1)], [])) (b := (15, [(2, .int r1), (0, .ref 0), (1, .int x1)], [])) rfl rfl c2 ?_
    refine rsn 1 (t := (16, [(2, .int r1), (0, .ref 0), (1, .int x1)], [.ref 0])) rfl ?_
    refine pgI rfl rfl rfl (hSh.1.k 0 rfl _) ?_
    show RN xs L al (Ev xs L al d) 62 19 [(2, .int r1), (0, .ref 0), (1, .int x1)] [.int ((mI m 0 8))] (m, S) (some (.int r0)) (mf, S)
    refine rsn 1 (t := (20, [(2, .int r1), (0, .ref 0), (1, .int x1)], [.int ((-1)), .int ((mI m 0 8))])) rfl ?_
    by_cases c3 : ((mI m 0 8)) = ((-1))
    · rw [if_pos c3] at h
      refine rjf (a := (35, [(2, .int r1), (0, .ref 0), (1, .int x1)], [])) (b := (23, [(2, .int r1), (0, .ref 0), (1, .int x1)], [])) rfl rfl (fun q => q c3) ?_
      refine rsn 1 (t := (24, [(2, .int r1), (0, .ref 0), (1, .int x1)], [.ref 0])) rfl ?_
      refine rgR rfl rfl rfl (hSh.1.k 0 rfl _) (hSh.1.r 88 rfl _) ?_
      refine rsn 2 (t := (29, [(2, .int r1), (0, .ref 0), (1, .int x1)], [.int x1, .int r1, .ref 10])) rfl ?_
      obtain ⟨r4, g4, h⟩ := b1_some h
      refine rcV 50 10 [.int r1, .int x1] rfl rfl rfl (hSh.1.k 10 rfl _) (Nat.le_of_ble_eq_true rfl) rfl (e_Will_isAlt N (by omega) hSh (by decide) g4) ?_
      show RN xs L al (Ev xs L al d) 62 32 [(2, .int r1), (0, .ref 0), (1, .int x1)] [.int r4] (m, S) (some (.int r0)) (mf, S)
      by_cases c5 : r4 = 0
      · rw [if_pos c5] at h
        refine rjf (a := (37, [(2, .int r1), (0, .ref 0), (1, .int x1)], [])) (b := (35, [(2, .int r1), (0, .ref 0), (1, .int x1)], [])) rfl rfl (fun q => q c5) ?_
        refine rsn 1 (t := (36, [(2, .int r1), (0, .ref 0), (1, .int x1)], [.int ((-1))])) rfl ?_
        obtain ⟨h, h2⟩ := Prod.mk.inj (Option.some.inj h)
        subst h
        subst h2
        exact rret rfl ⟨rfl, rfl, _, _, rfl, rfl, rfl, rfl⟩
      · rw [if_neg c5] at h
        refine rjt (a := (37, [(2, .int r1), (0, .ref 0), (1, .int x1)], [])) (b := (35, [(2, .int r1), (0, .ref 0), (1, .int x1)], [])) rfl rfl c5 ?_
        refine rsn 2 (t := (39, [(2, .int r1), (0, .ref 0), (1, .int x1)], [.ref 0, .ref 0])) rfl ?_
        refine rgR rfl rfl rfl (hSh.1.k 0 rfl _) (hSh.1.r 88 rfl _) ?_
        refine rsn 2 (t := (44, [(2, .int r1), (0, .ref 0), (1, .int x1)], [.int x1, .int r1, .ref 10, .ref 0])) rfl ?_
        obtain ⟨r6, g6, h⟩ := b1_some h
        refine rcV 64 10 [.int r1, .int x1] rfl rfl rfl (hSh.1.k 10 rfl _) (Nat.le_of_ble_eq_true rfl) rfl (e_Will_thing N (by omega) hSh (by decide) g6) ?_
        show RN xs L al (Ev xs L al d) 62 47 [(2, .int r1), (0, .ref 0), (1, .int x1)] [.int r6, .ref 0] (m, S) (some (.int r0)) (mf, S)
        refine ppI rfl rfl rfl rfl (hSh.1.k 0 rfl _) ?_
        refine rsn 2 (t := (52, [(2, .int r1), (0, .ref 0), (1, .int x1)], [.ref 0, .ref 0])) rfl ?_
        refine rgR rfl rfl rfl (hSh.1.k 0 rfl _) (hSh.1.r 88 rfl _) ?_
        refine rsn 1 (t := (56, [(2, .int r1), (0, .ref 0), (1, .int x1)], [.ref 0, .ref 10, .ref 0])) rfl ?_
        refine pgJ rfl rfl rfl (hSh.1.k 0 rfl _) ?_
        show RN xs L al (Ev xs L al d) 62 59 [(2, .int r1), (0, .ref 0), (1, .int x1)] [.long ((mJ m 0 7)), .ref 10, .ref 0] ((vI m 0 8 r6), S) (some (.int r0)) (mf, S)
        refine rsn 2 (t := (61, [(2, .int r1), (0, .ref 0), (1, .int x1)], [.int x1, .int r1, .long ((mJ m 0 7)), .ref 10, .ref 0])) rfl ?_
        obtain ⟨r7, g7, h⟩ := b1_some h
        refine rcV 65 10 [.long ((mJ m 0 7)), .int r1, .int x1] rfl rfl rfl (hSh.1.k 10 rfl _) (Nat.le_of_ble_eq_true rfl) rfl (e_Will_passed N (by omega) hSh (by decide) g7) ?_
        show RN xs L al (Ev xs L al d) 62 64 [(2, .int r1), (0, .ref 0), (1, .int x1)] [.long r7, .ref 0] ((vI m 0 8 r6), S) (some (.int r0)) (mf, S)
        refine ppJ rfl rfl rfl rfl (hSh.1.k 0 rfl _) ?_
        refine rsn 1 (t := (68, [(2, .int r1), (0, .ref 0), (1, .int x1)], [.ref 0])) rfl ?_
        refine pgJ rfl rfl rfl (hSh.1.k 0 rfl _) ?_
        show RN xs L al (Ev xs L al d) 62 71 [(2, .int r1), (0, .ref 0), (1, .int x1)] [.long r7] ((vJ (vI m 0 8 r6) 0 7 r7), S) (some (.int r0)) (mf, S)
        obtain ⟨r8, g8, h⟩ := b1_some h
        refine rcS 63 [.long r7] rfl rfl rfl (Nat.le_of_ble_eq_true rfl) rfl (e_State_dayOf N (by omega) g8) ?_
        show RN xs L al (Ev xs L al d) 62 74 [(2, .int r1), (0, .ref 0), (1, .int x1)] [.int r8] ((vJ (vI m 0 8 r6) 0 7 r7), S) (some (.int r0)) (mf, S)
        obtain ⟨h, h2⟩ := Prod.mk.inj (Option.some.inj h)
        subst h
        subst h2
        exact rret rfl ⟨rfl, rfl, _, _, rfl, rfl, rfl, rfl⟩
    · rw [if_neg c3] at h
      refine rjt (a := (35, [(2, .int r1), (0, .ref 0), (1, .int x1)], [])) (b := (23, [(2, .int r1), (0, .ref 0), (1, .int x1)], [])) rfl rfl c3 ?_
      refine rsn 1 (t := (36, [(2, .int r1), (0, .ref 0), (1, .int x1)], [.int ((-1))])) rfl ?_
      obtain ⟨h, h2⟩ := Prod.mk.inj (Option.some.inj h)
      subst h
      subst h2
      exact rret rfl ⟨rfl, rfl, _, _, rfl, rfl, rfl, rfl⟩
def f_Will_mayGive (N : Nat) (S : St) (x0 : Nat) (x1 : Int64) (x3 : Int32) (x4 : Int32) (m : Mm) : Option (Int32) := (if x3 = 3 then b1 (f_State_heldOf N x1) fun r6 => (if x4 ≤ r6 then some 0 else some 1) else b1 (f_Will_isHeir N S x0 x3 m) fun r2 => (if r2 = 0 then some 0 else b1 (f_State_isThere N x1 x3) fun r4 => (if r4 = 0 then some 0 else some 1)))
set_option maxRecDepth 20000 in
set_option maxHeartbeats 4000000 in
theorem e_Will_mayGive {xs : Nat → Int32} {L : Nat} {al : Bool} (N : Nat) {d : Nat} (hd : 4 ≤ d) {S : St} (hSh : ShC S) {x0 : Nat} {x1 : Int64} {x3 : Int32} {x4 : Int32} (hx0 : x0 ∈ wKl) {m : Mm} {r0 : Int32} (h : f_Will_mayGive N S x0 x1 x3 x4 m = some r0) : Ev xs L al d 67 [.ref x0, .long x1, .int x3, .int x4] (m, S) (some (.int r0)) (m, S) := by
  obtain ⟨d, rfl⟩ : ∃ e, d = e + 1 := ⟨d - 1, by omega⟩
  refine ev_of (by decide) (Nat.le_of_ble_eq_true rfl) ?_
  rw [f_Will_mayGive] at h
  show RN xs L al (Ev xs L al d) 67 0 [(0, .ref x0), (1, .long x1), (3, .int x3), (4, .int x4)] [] (m, S) (some (.int r0)) (m, S)
  refine rsn 2 (t := (2, [(0, .ref x0), (1, .long x1), (3, .int x3), (4, .int x4)], [.int 3, .int x3])) rfl ?_
  by_cases c1 : x3 = 3
  · rw [if_pos c1] at h
    refine rjf (a := (20, [(0, .ref x0), (1, .long x1), (3, .int x3), (4, .int x4)], [])) (b := (5, [(0, .ref x0), (1, .long x1), (3, .int x3), (4, .int x4)], [])) rfl rfl (fun q => q c1) ?_
    refine rsn 1 (t := (6, [(0, .ref x0), (1, .long x1), (3, .int x3), (4, .int x4)], [.long x1])) rfl ?_
    obtain ⟨r6, g6, h⟩ := b1_some h
    refine rcS 68 [.long x1] rfl rfl rfl (Nat.le_of_ble_eq_true rfl) rfl (e_State_heldOf N (by omega) g6) ?_
    show RN xs L al (Ev xs L al d) 67 9 [(0, .ref x0), (1, .long x1), (3, .int x3), (4, .int x4)] [.int r6] (m, S) (some (.int r0)) (m, S)
    refine rsn 1 (t := (11, [(0, .ref x0), (1, .long x1), (3, .int x3), (4, .int x4)], [.int x4, .int r6])) rfl ?_
    by_cases c7 : x4 ≤ r6
    · rw [if_pos c7] at h
      refine rjt (a := (18, [(0, .ref x0), (1, .long x1), (3, .int x3), (4, .int x4)], [])) (b := (14, [(0, .ref x0), (1, .long x1), (3, .int x3), (4, .int x4)], [])) rfl rfl c7 ?_
      refine rsn 1 (t := (19, [(0, .ref x0), (1, .long x1), (3, .int x3), (4, .int x4)], [.int 0])) rfl ?_
      have h := Option.some.inj h
      subst h
      exact rret rfl ⟨rfl, rfl, _, _, rfl, rfl, rfl, rfl⟩
    · rw [if_neg c7] at h
      refine rjf (a := (18, [(0, .ref x0), (1, .long x1), (3, .int x3), (4, .int x4)], [])) (b := (14, [(0, .ref x0), (1, .long x1), (3, .int x3), (4, .int x4)], [])) rfl rfl c7 ?_
      refine rsn 2 (t := (19, [(0, .ref x0), (1, .long x1), (3, .int x3), (4, .int x4)], [.int 1])) rfl ?_
      have h := Option.some.inj h
      subst h
      exact rret rfl ⟨rfl, rfl, _, _, rfl, rfl, rfl, rfl⟩
  · rw [if_neg c1] at h
    refine rjt (a := (20, [(0, .ref x0), (1, .long x1), (3, .int x3), (4, .int x4)], [])) (b := (5, [(0, .ref x0), (1, .long x1), (3, .int x3), (4, .int x4)], [])) rfl rfl c1 ?_
    refine rsn 2 (t := (22, [(0, .ref x0), (1, .long x1), (3, .int x3), (4, .int x4)], [.int x3, .ref x0])) rfl ?_
    obtain ⟨r2, g2, h⟩ := b1_some h
    refine rcV 53 x0 [.int x3] rfl rfl rfl (hSh.kW hx0 _) (Nat.le_of_ble_eq_true rfl) rfl (e_Will_isHeir N (by omega) hSh hx0 g2) ?_
    show RN xs L al (Ev xs L al d) 67 25 [(0, .ref x0), (1, .long x1), (3, .int x3), (4, .int x4)] [.int r2] (m, S) (some (.int r0)) (m, S)
    by_cases c3 : r2 = 0
    · rw [if_pos c3] at h
      refine rjt (a := (40, [(0, .ref x0), (1, .long x1), (3, .int x3), (4, .int x4)], [])) (b := (28, [(0, .ref x0), (1, .long x1), (3, .int x3), (4, .int x4)], [])) rfl rfl c3 ?_
      refine rsn 1 (t := (41, [(0, .ref x0), (1, .long x1), (3, .int x3), (4, .int x4)], [.int 0])) rfl ?_
      have h := Option.some.inj h
      subst h
      exact rret rfl ⟨rfl, rfl, _, _, rfl, rfl, rfl, rfl⟩
    · rw [if_neg c3] at h
      refine rjf (a := (40, [(0, .ref x0), (1, .long x1), (3, .int x3), (4, .int x4)], [])) (b := (28, [(0, .ref x0), (1, .long x1), (3, .int x3), (4, .int x4)], [])) rfl rfl c3 ?_
      refine rsn 2 (t := (30, [(0, .ref x0), (1, .long x1), (3, .int x3), (4, .int x4)], [.int x3, .long x1])) rfl ?_
      obtain ⟨r4, g4, h⟩ := b1_some h
      refine rcS 54 [.long x1, .int x3] rfl rfl rfl (Nat.le_of_ble_eq_true rfl) rfl (e_State_isThere N (by omega) g4) ?_
      show RN xs L al (Ev xs L al d) 67 33 [(0, .ref x0), (1, .long x1), (3, .int x3), (4, .int x4)] [.int r4] (m, S) (some (.int r0)) (m, S)
      by_cases c5 : r4 = 0
      · rw [if_pos c5] at h
        refine rjt (a := (40, [(0, .ref x0), (1, .long x1), (3, .int x3), (4, .int x4)], [])) (b := (36, [(0, .ref x0), (1, .long x1), (3, .int x3), (4, .int x4)], [])) rfl rfl c5 ?_
        refine rsn 1 (t := (41, [(0, .ref x0), (1, .long x1), (3, .int x3), (4, .int x4)], [.int 0])) rfl ?_
        have h := Option.some.inj h
        subst h
        exact rret rfl ⟨rfl, rfl, _, _, rfl, rfl, rfl, rfl⟩
      · rw [if_neg c5] at h
        refine rjf (a := (40, [(0, .ref x0), (1, .long x1), (3, .int x3), (4, .int x4)], [])) (b := (36, [(0, .ref x0), (1, .long x1), (3, .int x3), (4, .int x4)], [])) rfl rfl c5 ?_
        refine rsn 2 (t := (41, [(0, .ref x0), (1, .long x1), (3, .int x3), (4, .int x4)], [.int 1])) rfl ?_
        have h := Option.some.inj h
        subst h
        exact rret rfl ⟨rfl, rfl, _, _, rfl, rfl, rfl, rfl⟩
def f_SC_give (N : Nat) (S : St) (x1 : Int32) (m : Mm) : Option (Int32 × Mm) := (if ((mI m 0 8)) = ((-1)) then some (0, m) else b1 (f_Will_mayGive N S 10 ((mJ m 0 7)) x1 ((mI m 10 2)) m) fun r2 => (if r2 = 0 then some (0, m) else b1 (f_State_with N ((mJ m 0 7)) ((mI m 0 8)) x1) fun r4 => some (1, (vI (vJ m 0 7 r4) 0 8 ((-1))))))
set_option maxRecDepth 20000 in
set_option maxHeartbeats 4000000 in
theorem e_SC_give {xs : Nat → Int32} {L : Nat} {al : Bool} (N : Nat) {d : Nat} (hd : 5 ≤ d) {S : St} (hSh : ShC S) {x1 : Int32} {m : Mm} {r0 : Int32} {mf : Mm} (h : f_SC_give N S x1 m = some (r0, mf)) : Ev xs L al d 66 [.ref 0, .int x1] (m, S) (some (.int r0)) (mf, S) := by
  obtain ⟨d, rfl⟩ : ∃ e, d = e + 1 := ⟨d - 1, by omega⟩
  refine ev_of (by decide) (Nat.le_of_ble_eq_true rfl) ?_
  rw [f_SC_give] at h
  show RN xs L al (Ev xs L al d) 66 0 [(0, .ref 0), (1, .int x1)] [] (m, S) (some (.int r0)) (mf, S)
  refine rsn 1 (t := (1, [(0, .ref 0), (1, .int x1)], [.ref 0])) rfl ?_
  refine pgI rfl rfl rfl (hSh.1.k 0 rfl _) ?_
  show RN xs L al (Ev xs L al d) 66 4 [(0, .ref 0), (1, .int x1)] [.int ((mI m 0 8))] (m, S) (some (.int r0)) (mf, S)
  refine rsn 1 (t := (5, [(0, .ref 0), (1, .int x1)], [.int ((-1)), .int ((mI m 0 8))])) rfl ?_
  by_cases c1 : ((mI m 0 8)) = ((-1))
  · rw [if_pos c1] at h
    refine rjt (a := (30, [(0, .ref 0), (1, .int x1)], [])) (b := (8, [(0, .ref 0), (1, .int x1)], [])) rfl rfl c1 ?_
    refine rsn 1 (t := (31, [(0, .ref 0), (1, .int x1)], [.int 0])) rfl ?_
    obtain ⟨h, h2⟩ := Prod.mk.inj (Option.some.inj h)
    subst h
    subst h2
    exact rret rfl ⟨rfl, rfl, _, _, rfl, rfl, rfl, rfl⟩
  · rw [if_neg c1] at h
    refine rjf (a := (30, [(0, .ref 0), (1, .int x1)], [])) (b := (8, [(0, .ref 0), (1, .int x1)], [])) rfl rfl c1 ?_
    refine rsn 1 (t := (9, [(0, .ref 0), (1, .int x1)], [.ref 0])) rfl ?_
    refine rgR rfl rfl rfl (hSh.1.k 0 rfl _) (hSh.1.r 88 rfl _) ?_
    refine rsn 1 (t := (13, [(0, .ref 0), (1, .int x1)], [.ref 0, .ref 10])) rfl ?_
    refine pgJ rfl rfl rfl (hSh.1.k 0 rfl _) ?_
    show RN xs L al (Ev xs L al d) 66 16 [(0, .ref 0), (1, .int x1)] [.long ((mJ m 0 7)), .ref 10] (m, S) (some (.int r0)) (mf, S)
    refine rsn 2 (t := (18, [(0, .ref 0), (1, .int x1)], [.ref 0, .int x1, .long ((mJ m 0 7)), .ref 10])) rfl ?_
    refine rgR rfl rfl rfl (hSh.1.k 0 rfl _) (hSh.1.r 88 rfl _) ?_
    refine pgI rfl rfl rfl (hSh.1.k 10 rfl _) ?_
    show RN xs L al (Ev xs L al d) 66 24 [(0, .ref 0), (1, .int x1)] [.int ((mI m 10 2)), .int x1, .long ((mJ m 0 7)), .ref 10] (m, S) (some (.int r0)) (mf, S)
    obtain ⟨r2, g2, h⟩ := b1_some h
    refine rcV 67 10 [.long ((mJ m 0 7)), .int x1, .int ((mI m 10 2))] rfl rfl rfl (hSh.1.k 10 rfl _) (Nat.le_of_ble_eq_true rfl) rfl (e_Will_mayGive N (by omega) hSh (by decide) g2) ?_
    show RN xs L al (Ev xs L al d) 66 27 [(0, .ref 0), (1, .int x1)] [.int r2] (m, S) (some (.int r0)) (mf, S)
    by_cases c3 : r2 = 0
    · rw [if_pos c3] at h
      refine rjf (a := (32, [(0, .ref 0), (1, .int x1)], [])) (b := (30, [(0, .ref 0), (1, .int x1)], [])) rfl rfl (fun q => q c3) ?_
      refine rsn 1 (t := (31, [(0, .ref 0), (1, .int x1)], [.int 0])) rfl ?_
      obtain ⟨h, h2⟩ := Prod.mk.inj (Option.some.inj h)
      subst h
      subst h2
      exact rret rfl ⟨rfl, rfl, _, _, rfl, rfl, rfl, rfl⟩
    · rw [if_neg c3] at h
      refine rjt (a := (32, [(0, .ref 0), (1, .int x1)], [])) (b := (30, [(0, .ref 0), (1, .int x1)], [])) rfl rfl c3 ?_
      refine rsn 2 (t := (34, [(0, .ref 0), (1, .int x1)], [.ref 0, .ref 0])) rfl ?_
      refine pgJ rfl rfl rfl (hSh.1.k 0 rfl _) ?_
      show RN xs L al (Ev xs L al d) 66 37 [(0, .ref 0), (1, .int x1)] [.long ((mJ m 0 7)), .ref 0] (m, S) (some (.int r0)) (mf, S)
      refine rsn 1 (t := (38, [(0, .ref 0), (1, .int x1)], [.ref 0, .long ((mJ m 0 7)), .ref 0])) rfl ?_
      refine pgI rfl rfl rfl (hSh.1.k 0 rfl _) ?_
      show RN xs L al (Ev xs L al d) 66 41 [(0, .ref 0), (1, .int x1)] [.int ((mI m 0 8)), .long ((mJ m 0 7)), .ref 0] (m, S) (some (.int r0)) (mf, S)
      refine rsn 1 (t := (42, [(0, .ref 0), (1, .int x1)], [.int x1, .int ((mI m 0 8)), .long ((mJ m 0 7)), .ref 0])) rfl ?_
      obtain ⟨r4, g4, h⟩ := b1_some h
      refine rcS 70 [.long ((mJ m 0 7)), .int ((mI m 0 8)), .int x1] rfl rfl rfl (Nat.le_of_ble_eq_true rfl) rfl (e_State_with N (by omega) g4) ?_
      show RN xs L al (Ev xs L al d) 66 45 [(0, .ref 0), (1, .int x1)] [.long r4, .ref 0] (m, S) (some (.int r0)) (mf, S)
      refine ppJ rfl rfl rfl rfl (hSh.1.k 0 rfl _) ?_
      refine rsn 2 (t := (50, [(0, .ref 0), (1, .int x1)], [.int ((-1)), .ref 0])) rfl ?_
      refine ppI rfl rfl rfl rfl (hSh.1.k 0 rfl _) ?_
      refine rsn 1 (t := (54, [(0, .ref 0), (1, .int x1)], [.int 1])) rfl ?_
      obtain ⟨h, h2⟩ := Prod.mk.inj (Option.some.inj h)
      subst h
      subst h2
      exact rret rfl ⟨rfl, rfl, _, _, rfl, rfl, rfl, rfl⟩
