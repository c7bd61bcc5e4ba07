/-! THE REFERENCE: its shape, and its methods as functions (printed by wip/whole/gen_fun.py). -/
def kTR : List (Nat × Nat) := [(0, 10), (1, 11), (2, 13), (3, 14), (4, 12), (5, 12), (6, 12), (7, 12), (8, 12), (9, 12), (10, 13), (11, 12), (12, 12), (13, 14), (14, 13), (15, 12), (16, 12), (17, 13), (18, 13), (19, 12), (20, 12), (21, 12), (22, 13), (23, 13), (24, 13), (25, 13)]
def lTR : List (Nat × Nat) := [(1, 400), (2, 3), (3, 3), (4, 9), (5, 6), (6, 54), (7, 9), (8, 6), (9, 54), (10, 4), (11, 4), (12, 4), (13, 4), (14, 262144), (15, 262144), (16, 8), (17, 160000), (18, 160000), (19, 9), (20, 524288), (21, 6), (22, 729), (23, 729), (24, 729), (25, 729)]
def rTR : List (Nat × Nat × Nat) := [(0, 0, 1), (0, 7, 2), (0, 8, 3), (0, 9, 4), (0, 11, 5), (0, 12, 6), (0, 17, 7), (0, 19, 8), (0, 20, 9), (0, 26, 10), (0, 27, 11), (0, 28, 12), (0, 29, 13), (0, 31, 14), (0, 32, 15), (0, 34, 16), (0, 35, 17), (0, 36, 18), (0, 37, 19), (0, 38, 20), (0, 41, 21), (0, 42, 22), (0, 43, 23), (0, 44, 24), (0, 45, 25)]
abbrev ShR (S : St) : Prop := Sh kTR lTR rTR S
theorem sw_i {nL : Nat} {a : Nat → Option Int32} {b : Nat → Option Int64} {dflt lo hi o : Int} {offs : Array Int} {len pc : Nat} {lv : Lc} {x : Int32} {r : List Value} (h1 : 0 ≤ (pc : Int) + dflt ∧ (offs.all fun o => decide (0 ≤ (pc : Int) + o)) = true) (h2 : ¬ (x.toInt < lo ∨ hi < x.toInt)) (h3 : offs[(x.toInt - lo).toNat]? = some o) : stp nL a b (.tableswitch dflt lo hi offs) len pc lv (.int x :: r) = some (tgt pc o, lv, r) := by
  simp only [stp]
  rw [if_pos h1, if_neg h2, h3]
  rfl
theorem sw_d {nL : Nat} {a : Nat → Option Int32} {b : Nat → Option Int64} {dflt lo hi : Int} {offs : Array Int} {len pc : Nat} {lv : Lc} {x : Int32} {r : List Value} (h1 : 0 ≤ (pc : Int) + dflt ∧ (offs.all fun o => decide (0 ≤ (pc : Int) + o)) = true) (h2 : x.toInt < lo ∨ hi < x.toInt) : stp nL a b (.tableswitch dflt lo hi offs) len pc lv (.int x :: r) = some (tgt pc dflt, lv, r) := by
  simp only [stp]
  rw [if_pos h1, if_pos h2]
theorem sw_out {x : Int32} {n : Nat} (h : ∀ i : Nat, i ≤ n → ¬ x = Int32.ofNat i) (hn : n < 2 ^ 31) : x.toInt < 0 ∨ (n : Int) < x.toInt := by
  by_cases h0 : x.toInt < 0
  · exact Or.inl h0
  · right
    obtain ⟨j, hj, rfl⟩ := nI_of (x := x) (fun q => h0 (by simpa [Int32.lt_iff_toInt_lt] using q))
    have h1 : ¬ j ≤ n := fun q => h j q rfl
    rw [nI_toInt hj]
    omega
def f_State_cameOf (N : Nat) (x0 : Int64) : Option (Int32) := some (((((lus x0 36)).toInt32) &&& 7))
set_option maxRecDepth 20000 in
set_option maxHeartbeats 4000000 in
theorem e_State_cameOf {xs : Nat → Int32} {L : Nat} {al : Bool} (N : Nat) {d : Nat} (hd : 1 ≤ d) {w : Wd} {x0 : Int64} {r0 : Int32} (h : f_State_cameOf N x0 = some r0) : Ev xs L al d 55 [.long x0] w (some (.int r0)) w := by
  obtain ⟨d, rfl⟩ : ∃ e, d = e + 1 := ⟨d - 1, by omega⟩
  refine ev_of (by decide) (Nat.le_of_ble_eq_true rfl) ?_
  rw [f_State_cameOf] at h
  show RN xs L al (Ev xs L al d) 55 0 [(0, .long x0)] [] w (some (.int r0)) w
  refine rsn 2 (t := (3, [(0, .long x0)], [.int 36, .long x0])) rfl ?_
  refine rsn 1 (t := (4, [(0, .long x0)], [.long ((lus x0 36))])) rfl ?_
  refine rsn 3 (t := (8, [(0, .long x0)], [.int (((((lus x0 36)).toInt32) &&& 7))])) rfl ?_
  cases h
  exact rret rfl ⟨rfl, rfl, _, _, rfl, rfl, rfl, rfl⟩
def f_State_isThere (N : Nat) (x0 : Int64) (x2 : Int32) : Option (Int32) := b1 (f_State_cameOf N x0) fun r1 => (if ((((isr r1 x2)) &&& 1)) = 1 then some 1 else some 0)
set_option maxRecDepth 20000 in
set_option maxHeartbeats 4000000 in
theorem e_State_isThere {xs : Nat → Int32} {L : Nat} {al : Bool} (N : Nat) {d : Nat} (hd : 2 ≤ d) {w : Wd} {x0 : Int64} {x2 : Int32} {r0 : Int32} (h : f_State_isThere N x0 x2 = some r0) : Ev xs L al d 54 [.long x0, .int x2] w (some (.int r0)) w := by
  obtain ⟨d, rfl⟩ : ∃ e, d = e + 1 := ⟨d - 1, by omega⟩
  refine ev_of (by decide) (Nat.le_of_ble_eq_true rfl) ?_
  rw [f_State_isThere] at h
  show RN xs L al (Ev xs L al d) 54 0 [(0, .long x0), (2, .int x2)] [] w (some (.int r0)) w
  refine rsn 1 (t := (1, [(0, .long x0), (2, .int x2)], [.long x0])) rfl ?_
  obtain ⟨r1, g1, h⟩ := b1_some h
  refine rcS 55 [.long x0] rfl rfl rfl (Nat.le_of_ble_eq_true rfl) rfl (e_State_cameOf N (by omega) g1) ?_
  show RN xs L al (Ev xs L al d) 54 4 [(0, .long x0), (2, .int x2)] [.int r1] w (some (.int r0)) w
  refine rsn 5 (t := (9, [(0, .long x0), (2, .int x2)], [.int 1, .int ((((isr r1 x2)) &&& 1))])) rfl ?_
  by_cases c2 : ((((isr r1 x2)) &&& 1)) = 1
  · rw [if_pos c2] at h
    refine rjf (a := (16, [(0, .long x0), (2, .int x2)], [])) (b := (12, [(0, .long x0), (2, .int x2)], [])) rfl rfl (fun q => q c2) ?_
    refine rsn 2 (t := (17, [(0, .long x0), (2, .int x2)], [.int 1])) rfl ?_
    cases h
    exact rret rfl ⟨rfl, rfl, _, _, rfl, rfl, rfl, rfl⟩
  · rw [if_neg c2] at h
    refine rjt (a := (16, [(0, .long x0), (2, .int x2)], [])) (b := (12, [(0, .long x0), (2, .int x2)], [])) rfl rfl c2 ?_
    refine rsn 1 (t := (17, [(0, .long x0), (2, .int x2)], [.int 0])) rfl ?_
    cases h
    exact rret rfl ⟨rfl, rfl, _, _, rfl, rfl, rfl, rfl⟩
def f_State_amount (N : Nat) (x0 : Int64) (x2 : Int32) (x3 : Int32) : Option (Int32) := some (((((lus x0 ((((12 * x2)) + ((3 * x3)))))).toInt32) &&& 7))
set_option maxRecDepth 20000 in
set_option maxHeartbeats 4000000 in
theorem e_State_amount {xs : Nat → Int32} {L : Nat} {al : Bool} (N : Nat) {d : Nat} (hd : 1 ≤ d) {w : Wd} {x0 : Int64} {x2 : Int32} {x3 : Int32} {r0 : Int32} (h : f_State_amount N x0 x2 x3 = some r0) : Ev xs L al d 57 [.long x0, .int x2, .int x3] w (some (.int r0)) w := by
  obtain ⟨d, rfl⟩ : ∃ e, d = e + 1 := ⟨d - 1, by omega⟩
  refine ev_of (by decide) (Nat.le_of_ble_eq_true rfl) ?_
  rw [f_State_amount] at h
  show RN xs L al (Ev xs L al d) 57 0 [(0, .long x0), (2, .int x2), (3, .int x3)] [] w (some (.int r0)) w
  refine rsn 8 (t := (9, [(0, .long x0), (2, .int x2), (3, .int x3)], [.int ((((12 * x2)) + ((3 * x3)))), .long x0])) rfl ?_
  refine rsn 1 (t := (10, [(0, .long x0), (2, .int x2), (3, .int x3)], [.long ((lus x0 ((((12 * x2)) + ((3 * x3))))))])) rfl ?_
  refine rsn 3 (t := (14, [(0, .long x0), (2, .int x2), (3, .int x3)], [.int (((((lus x0 ((((12 * x2)) + ((3 * x3)))))).toInt32) &&& 7))])) rfl ?_
  cases h
  exact rret rfl ⟨rfl, rfl, _, _, rfl, rfl, rfl, rfl⟩
def f_State_dayOf (N : Nat) (x0 : Int64) : Option (Int32) := some (((((lus x0 39)).toInt32) &&& 7))
set_option maxRecDepth 20000 in
set_option maxHeartbeats 4000000 in
theorem e_State_dayOf {xs : Nat → Int32} {L : Nat} {al : Bool} (N : Nat) {d : Nat} (hd : 1 ≤ d) {w : Wd} {x0 : Int64} {r0 : Int32} (h : f_State_dayOf N x0 = some r0) : Ev xs L al d 63 [.long x0] w (some (.int r0)) w := by
  obtain ⟨d, rfl⟩ : ∃ e, d = e + 1 := ⟨d - 1, by omega⟩
  refine ev_of (by decide) (Nat.le_of_ble_eq_true rfl) ?_
  rw [f_State_dayOf] at h
  show RN xs L al (Ev xs L al d) 63 0 [(0, .long x0)] [] w (some (.int r0)) w
  refine rsn 2 (t := (3, [(0, .long x0)], [.int 39, .long x0])) rfl ?_
  refine rsn 1 (t := (4, [(0, .long x0)], [.long ((lus x0 39))])) rfl ?_
  refine rsn 3 (t := (8, [(0, .long x0)], [.int (((((lus x0 39)).toInt32) &&& 7))])) rfl ?_
  cases h
  exact rret rfl ⟨rfl, rfl, _, _, rfl, rfl, rfl, rfl⟩
def f_State_thingsOf (N : Nat) (x0 : Int64) (x2 : Int32) : Option (Int32) := b1 (f_State_amount N x0 0 x2) fun r1 => b1 (f_State_amount N x0 1 x2) fun r2 => b1 (f_State_amount N x0 2 x2) fun r3 => some ((((r1 + r2)) + r3))
set_option maxRecDepth 20000 in
set_option maxHeartbeats 4000000 in
theorem e_State_thingsOf {xs : Nat → Int32} {L : Nat} {al : Bool} (N : Nat) {d : Nat} (hd : 2 ≤ d) {w : Wd} {x0 : Int64} {x2 : Int32} {r0 : Int32} (h : f_State_thingsOf N x0 x2 = some r0) : Ev xs L al d 69 [.long x0, .int x2] w (some (.int r0)) w := by
  obtain ⟨d, rfl⟩ : ∃ e, d = e + 1 := ⟨d - 1, by omega⟩
  refine ev_of (by decide) (Nat.le_of_ble_eq_true rfl) ?_
  rw [f_State_thingsOf] at h
  show RN xs L al (Ev xs L al d) 69 0 [(0, .long x0), (2, .int x2)] [] w (some (.int r0)) w
  refine rsn 3 (t := (3, [(0, .long x0), (2, .int x2)], [.int x2, .int 0, .long x0])) rfl ?_
  obtain ⟨r1, g1, h⟩ := b1_some h
  refine rcS 57 [.long x0, .int 0, .int x2] rfl rfl rfl (Nat.le_of_ble_eq_true rfl) rfl (e_State_amount N (by omega) g1) ?_
  show RN xs L al (Ev xs L al d) 69 6 [(0, .long x0), (2, .int x2)] [.int r1] w (some (.int r0)) w
  refine rsn 3 (t := (9, [(0, .long x0), (2, .int x2)], [.int x2, .int 1, .long x0, .int r1])) rfl ?_
  obtain ⟨r2, g2, h⟩ := b1_some h
  refine rcS 57 [.long x0, .int 1, .int x2] rfl rfl rfl (Nat.le_of_ble_eq_true rfl) rfl (e_State_amount N (by omega) g2) ?_
  show RN xs L al (Ev xs L al d) 69 12 [(0, .long x0), (2, .int x2)] [.int r2, .int r1] w (some (.int r0)) w
  refine rsn 4 (t := (16, [(0, .long x0), (2, .int x2)], [.int x2, .int 2, .long x0, .int ((r1 + r2))])) rfl ?_
  obtain ⟨r3, g3, h⟩ := b1_some h
  refine rcS 57 [.long x0, .int 2, .int x2] rfl rfl rfl (Nat.le_of_ble_eq_true rfl) rfl (e_State_amount N (by omega) g3) ?_
  show RN xs L al (Ev xs L al d) 69 19 [(0, .long x0), (2, .int x2)] [.int r3, .int ((r1 + r2))] w (some (.int r0)) w
  refine rsn 1 (t := (20, [(0, .long x0), (2, .int x2)], [.int ((((r1 + r2)) + r3))])) rfl ?_
  cases h
  exact rret rfl ⟨rfl, rfl, _, _, rfl, rfl, rfl, rfl⟩
def f_State_heldOf (N : Nat) (x0 : Int64) : Option (Int32) := b1 (f_State_thingsOf N x0 3) fun r1 => some r1
set_option maxRecDepth 20000 in
set_option maxHeartbeats 4000000 in
theorem e_State_heldOf {xs : Nat → Int32} {L : Nat} {al : Bool} (N : Nat) {d : Nat} (hd : 3 ≤ d) {w : Wd} {x0 : Int64} {r0 : Int32} (h : f_State_heldOf N x0 = some r0) : Ev xs L al d 68 [.long x0] w (some (.int r0)) w := by
  obtain ⟨d, rfl⟩ : ∃ e, d = e + 1 := ⟨d - 1, by omega⟩
  refine ev_of (by decide) (Nat.le_of_ble_eq_true rfl) ?_
  rw [f_State_heldOf] at h
  show RN xs L al (Ev xs L al d) 68 0 [(0, .long x0)] [] w (some (.int r0)) w
  refine rsn 2 (t := (2, [(0, .long x0)], [.int 3, .long x0])) rfl ?_
  obtain ⟨r1, g1, h⟩ := b1_some h
  refine rcS 69 [.long x0, .int 3] rfl rfl rfl (Nat.le_of_ble_eq_true rfl) rfl (e_State_thingsOf N (by omega) g1) ?_
  show RN xs L al (Ev xs L al d) 68 5 [(0, .long x0)] [.int r1] w (some (.int r0)) w
  cases h
  exact rret rfl ⟨rfl, rfl, _, _, rfl, rfl, rfl, rfl⟩
def f_State_one (N : Nat) (x0 : Int32) (x1 : Int32) : Option (Int64) := some ((lsl 1 ((((12 * x0)) + ((3 * x1))))))
set_option maxRecDepth 20000 in
set_option maxHeartbeats 4000000 in
theorem e_State_one {xs : Nat → Int32} {L : Nat} {al : Bool} (N : Nat) {d : Nat} (hd : 1 ≤ d) {w : Wd} {x0 : Int32} {x1 : Int32} {r0 : Int64} (h : f_State_one N x0 x1 = some r0) : Ev xs L al d 71 [.int x0, .int x1] w (some (.long r0)) w := by
  obtain ⟨d, rfl⟩ : ∃ e, d = e + 1 := ⟨d - 1, by omega⟩
  refine ev_of (by decide) (Nat.le_of_ble_eq_true rfl) ?_
  rw [f_State_one] at h
  show RN xs L al (Ev xs L al d) 71 0 [(0, .int x0), (1, .int x1)] [] w (some (.long r0)) w
  refine rsn 8 (t := (9, [(0, .int x0), (1, .int x1)], [.int ((((12 * x0)) + ((3 * x1)))), .long 1])) rfl ?_
  refine rsn 1 (t := (10, [(0, .int x0), (1, .int x1)], [.long ((lsl 1 ((((12 * x0)) + ((3 * x1))))))])) rfl ?_
  cases h
  exact rret rfl ⟨rfl, rfl, _, rfl, rfl, rfl⟩
def f_State_with (N : Nat) (x0 : Int64) (x2 : Int32) (x3 : Int32) : Option (Int64) := b1 (f_State_one N x2 x3) fun r1 => some ((x0 + r1))
set_option maxRecDepth 20000 in
set_option maxHeartbeats 4000000 in
theorem e_State_with {xs : Nat → Int32} {L : Nat} {al : Bool} (N : Nat) {d : Nat} (hd : 2 ≤ d) {w : Wd} {x0 : Int64} {x2 : Int32} {x3 : Int32} {r0 : Int64} (h : f_State_with N x0 x2 x3 = some r0) : Ev xs L al d 70 [.long x0, .int x2, .int x3] w (some (.long r0)) w := by
  obtain ⟨d, rfl⟩ : ∃ e, d = e + 1 := ⟨d - 1, by omega⟩
  refine ev_of (by decide) (Nat.le_of_ble_eq_true rfl) ?_
  rw [f_State_with] at h
  show RN xs L al (Ev xs L al d) 70 0 [(0, .long x0), (2, .int x2), (3, .int x3)] [] w (some (.long r0)) w
  refine rsn 3 (t := (3, [(0, .long x0), (2, .int x2), (3, .int x3)], [.int x3, .int x2, .long x0])) rfl ?_
  obtain ⟨r1, g1, h⟩ := b1_some h
  refine rcS 71 [.int x2, .int x3] rfl rfl rfl (Nat.le_of_ble_eq_true rfl) rfl (e_State_one N (by omega) g1) ?_
  show RN xs L al (Ev xs L al d) 70 6 [(0, .long x0), (2, .int x2), (3, .int x3)] [.long r1, .long x0] w (some (.long r0)) w
  refine rsn 1 (t := (7, [(0, .long x0), (2, .int x2), (3, .int x3)], [.long ((x0 + r1))])) rfl ?_
  cases h
  exact rret rfl ⟨rfl, rfl, _, rfl, rfl, rfl⟩
def f_SC_isGoal (N : Nat) (x0 : Int32) : Option (Int32) := (if x0 < 0 then some 0 else (if 3 ≤ x0 then some 0 else some 1))
set_option maxRecDepth 20000 in
set_option maxHeartbeats 4000000 in
theorem e_SC_isGoal {xs : Nat → Int32} {L : Nat} {al : Bool} (N : Nat) {d : Nat} (hd : 1 ≤ d) {w : Wd} {x0 : Int32} {r0 : Int32} (h : f_SC_isGoal N x0 = some r0) : Ev xs L al d 74 [.int x0] w (some (.int r0)) w := by
  obtain ⟨d, rfl⟩ : ∃ e, d = e + 1 := ⟨d - 1, by omega⟩
  refine ev_of (by decide) (Nat.le_of_ble_eq_true rfl) ?_
  rw [f_SC_isGoal] at h
  show RN xs L al (Ev xs L al d) 74 0 [(0, .int x0)] [] w (some (.int r0)) w
  refine rsn 1 (t := (1, [(0, .int x0)], [.int x0])) rfl ?_
  by_cases c1 : x0 < 0
  · rw [if_pos c1] at h
    refine rjt (a := (13, [(0, .int x0)], [])) (b := (4, [(0, .int x0)], [])) rfl rfl c1 ?_
    refine rsn 1 (t := (14, [(0, .int x0)], [.int 0])) rfl ?_
    cases h
    exact rret rfl ⟨rfl, rfl, _, _, rfl, rfl, rfl, rfl⟩
  · rw [if_neg c1] at h
    refine rjf (a := (13, [(0, .int x0)], [])) (b := (4, [(0, .int x0)], [])) rfl rfl c1 ?_
    refine rsn 2 (t := (6, [(0, .int x0)], [.int 3, .int x0])) rfl ?_
    by_cases c2 : 3 ≤ x0
    · rw [if_pos c2] at h
      refine rjt (a := (13, [(0, .int x0)], [])) (b := (9, [(0, .int x0)], [])) rfl rfl c2 ?_
      refine rsn 1 (t := (14, [(0, .int x0)], [.int 0])) rfl ?_
      cases h
      exact rret rfl ⟨rfl, rfl, _, _, rfl, rfl, rfl, rfl⟩
    · rw [if_neg c2] at h
      refine rjf (a := (13, [(0, .int x0)], [])) (b := (9, [(0, .int x0)], [])) rfl rfl c2 ?_
      refine rsn 2 (t := (14, [(0, .int x0)], [.int 1])) rfl ?_
      cases h
      exact rret rfl ⟨rfl, rfl, _, _, rfl, rfl, rfl, rfl⟩
def f_State_firstHeld_L2 (N : Nat) (x0 : Int64) (k2 : Int32 → Option (Int32)) : Nat → Int32 → Option (Int32)
  | 0, _ => none
  | n2 + 1, x2 => (if 3 ≤ x2 then k2 x2 else b1 (f_State_amount N x0 x2 3) fun r2 => (if r2 ≤ 0 then f_State_firstHeld_L2 N x0 k2 n2 ((x2 + 1)) else some x2))
def f_State_firstHeld (N : Nat) (x0 : Int64) : Option (Int32) := f_State_firstHeld_L2 N x0 (fun (z4_2 : Int32) => some ((-1))) N 0
set_option maxRecDepth 20000 in
set_option maxHeartbeats 4000000 in
theorem e_State_firstHeld {xs : Nat → Int32} {L : Nat} {al : Bool} (N : Nat) {d : Nat} (hd : 2 ≤ d) {w : Wd} {x0 : Int64} {r0 : Int32} (h : f_State_firstHeld N x0 = some r0) : Ev xs L al d 86 [.long x0] w (some (.int r0)) w := by
  obtain ⟨d, rfl⟩ : ∃ e, d = e + 1 := ⟨d - 1, by omega⟩
  refine ev_of (by decide) (Nat.le_of_ble_eq_true rfl) ?_
  rw [f_State_firstHeld] at h
  show RN xs L al (Ev xs L al d) 86 0 [(0, .long x0)] [] w (some (.int r0)) w
  refine rsn 2 (t := (2, [(2, .int 0), (0, .long x0)], [])) rfl ?_
  have ex2 : ∀ (z4_2 : Int32), (some ((-1))) = some r0 → RN xs L al (Ev xs L al d) 86 24 [] [] w (some (.int r0)) w := by
    intro z4_2 h
    try dsimp only at h
    refine rsn 1 (t := (25, [], [.int ((-1))])) rfl ?_
    cases h
    exact rret rfl ⟨rfl, rfl, _, _, rfl, rfl, rfl, rfl⟩
  have lp2 : ∀ (n : Nat) (y5_2 : Int32), (f_State_firstHeld_L2 N x0 (fun (z4_2 : Int32) => some ((-1))) n y5_2) = some r0 → RN xs L al (Ev xs L al d) 86 2 [(0, .long x0), (2, .int y5_2)] [] w (some (.int r0)) w := by
    intro n
    induction n with
    | zero => intro y5_2 h; exact absurd h (by simp [f_State_firstHeld_L2])
    | succ n2 ih2 =>
      intro y5_2 h
      try dsimp only at h
      rw [f_State_firstHeld_L2] at h
      try dsimp only at h
      refine rsn 2 (t := (4, [(0, .long x0), (2, .int y5_2)], [.int 3, .int y5_2])) rfl ?_
      by_cases c6 : 3 ≤ y5_2
      · rw [if_pos c6] at h
        refine rjt (a := (24, [(0, .long x0), (2, .int y5_2)], [])) (b := (7, [(0, .long x0), (2, .int y5_2)], [])) rfl rfl c6 ?_
        exact rsub [] trivial trivial (ex2 y5_2 h)
      · rw [if_neg c6] at h
        refine rjf (a := (24, [(0, .long x0), (2, .int y5_2)], [])) (b := (7, [(0, .long x0), (2, .int y5_2)], [])) rfl rfl c6 ?_
        refine rsn 3 (t := (10, [(0, .long x0), (2, .int y5_2)], [.int 3, .int y5_2, .long x0])) rfl ?_
        obtain ⟨r7, g7, h⟩ := b1_some h
        refine rcS 57 [.long x0, .int y5_2, .int 3] rfl rfl rfl (Nat.le_of_ble_eq_true rfl) rfl (e_State_amount N (by omega) g7) ?_
        show RN xs L al (Ev xs L al d) 86 13 [(0, .long x0), (2, .int y5_2)] [.int r7] w (some (.int r0)) w
        by_cases c8 : r7 ≤ 0
        · rw [if_pos c8] at h
          refine rjt (a := (18, [(0, .long x0), (2, .int y5_2)], [])) (b := (16, [(0, .long x0), (2, .int y5_2)], [])) rfl rfl c8 ?_
          refine rsn 2 (t := (2, [(2, .int ((y5_2 + 1))), (0, .long x0)], [])) rfl ?_
          exact rsub [(0, .long x0), (2, .int ((y5_2 + 1)))] ⟨rfl, ⟨rfl, trivial⟩⟩ ⟨rfl, ⟨rfl, trivial⟩⟩ (ih2 ((y5_2 + 1)) h)
        · rw [if_neg c8] at h
          refine rjf (a := (18, [(0, .long x0), (2, .int y5_2)], [])) (b := (16, [(0, .long x0), (2, .int y5_2)], [])) rfl rfl c8 ?_
          refine rsn 1 (t := (17, [(0, .long x0), (2, .int y5_2)], [.int y5_2])) rfl ?_
          cases h
          exact rret rfl ⟨rfl, rfl, _, _, rfl, rfl, rfl, rfl⟩
  exact rsub [(0, .long x0), (2, .int 0)] ⟨rfl, ⟨rfl, trivial⟩⟩ ⟨rfl, ⟨rfl, trivial⟩⟩ (lp2 N 0 h)
def f_Rows_digit (N : Nat) (x0 : Int32) (x1 : Int32) : Option (Int32) := some ((((ius x0 ((2 * x1)))) &&& 3))
set_option maxRecDepth 20000 in
set_option maxHeartbeats 4000000 in
theorem e_Rows_digit {xs : Nat → Int32} {L : Nat} {al : Bool} (N : Nat) {d : Nat} (hd : 1 ≤ d) {w : Wd} {x0 : Int32} {x1 : Int32} {r0 : Int32} (h : f_Rows_digit N x0 x1 = some r0) : Ev xs L al d 115 [.int x0, .int x1] w (some (.int r0)) w := by
  obtain ⟨d, rfl⟩ : ∃ e, d = e + 1 := ⟨d - 1, by omega⟩
  refine ev_of (by decide) (Nat.le_of_ble_eq_true rfl) ?_
  rw [f_Rows_digit] at h
  show RN xs L al (Ev xs L al d) 115 0 [(0, .int x0), (1, .int x1)] [] w (some (.int r0)) w
  refine rsn 7 (t := (7, [(0, .int x0), (1, .int x1)], [.int ((((ius x0 ((2 * x1)))) &&& 3))])) rfl ?_
  cases h
  exact rret rfl ⟨rfl, rfl, _, _, rfl, rfl, rfl, rfl⟩
def f_Rows_ending (N : Nat) (x0 : Int64) (x2 : Int64) : Option (Int64) := some ((((x0 &&& 68719476735)) ||| ((x2 &&& ((-68719476736))))))
set_option maxRecDepth 20000 in
set_option maxHeartbeats 4000000 in
theorem e_Rows_ending {xs : Nat → Int32} {L : Nat} {al : Bool} (N : Nat) {d : Nat} (hd : 1 ≤ d) {w : Wd} {x0 : Int64} {x2 : Int64} {r0 : Int64} (h : f_Rows_ending N x0 x2 = some r0) : Ev xs L al d 119 [.long x0, .long x2] w (some (.long r0)) w := by
  obtain ⟨d, rfl⟩ : ∃ e, d = e + 1 := ⟨d - 1, by omega⟩
  refine ev_of (by decide) (Nat.le_of_ble_eq_true rfl) ?_
  rw [f_Rows_ending] at h
  show RN xs L al (Ev xs L al d) 119 0 [(0, .long x0), (2, .long x2)] [] w (some (.long r0)) w
  refine rsn 7 (t := (11, [(0, .long x0), (2, .long x2)], [.long ((((x0 &&& 68719476735)) ||| ((x2 &&& ((-68719476736))))))])) rfl ?_
  cases h
  exact rret rfl ⟨rfl, rfl, _, rfl, rfl, rfl⟩
def f_Mo_in (N : Nat) (x0 : Int32) (x1 : Int32) (x2 : Int32) : Option (Int32) := (if x0 < x1 then some 0 else (if x2 < x0 then some 0 else some 1))
set_option maxRecDepth 20000 in
set_option maxHeartbeats 4000000 in
theorem e_Mo_in {xs : Nat → Int32} {L : Nat} {al : Bool} (N : Nat) {d : Nat} (hd : 1 ≤ d) {w : Wd} {x0 : Int32} {x1 : Int32} {x2 : Int32} {r0 : Int32} (h : f_Mo_in N x0 x1 x2 = some r0) : Ev xs L al d 146 [.int x0, .int x1, .int x2] w (some (.int r0)) w := by
  obtain ⟨d, rfl⟩ : ∃ e, d = e + 1 := ⟨d - 1, by omega⟩
  refine ev_of (by decide) (Nat.le_of_ble_eq_true rfl) ?_
  rw [f_Mo_in] at h
  show RN xs L al (Ev xs L al d) 146 0 [(0, .int x0), (1, .int x1), (2, .int x2)] [] w (some (.int r0)) w
  refine rsn 2 (t := (2, [(0, .int x0), (1, .int x1), (2, .int x2)], [.int x1, .int x0])) rfl ?_
  by_cases c1 : x0 < x1
  · rw [if_pos c1] at h
    refine rjt (a := (14, [(0, .int x0), (1, .int x1), (2, .int x2)], [])) (b := (5, [(0, .int x0), (1, .int x1), (2, .int x2)], [])) rfl rfl c1 ?_
    refine rsn 1 (t := (15, [(0, .int x0), (1, .int x1), (2, .int x2)], [.int 0])) rfl ?_
    cases h
    exact rret rfl ⟨rfl, rfl, _, _, rfl, rfl, rfl, rfl⟩
  · rw [if_neg c1] at h
    refine rjf (a := (14, [(0, .int x0), (1, .int x1), (2, .int x2)], [])) (b := (5, [(0, .int x0), (1, .int x1), (2, .int x2)], [])) rfl rfl c1 ?_
    refine rsn 2 (t := (7, [(0, .int x0), (1, .int x1), (2, .int x2)], [.int x2, .int x0])) rfl ?_
    by_cases c2 : x2 < x0
    · rw [if_pos c2] at h
      refine rjt (a := (14, [(0, .int x0), (1, .int x1), (2, .int x2)], [])) (b := (10, [(0, .int x0), (1, .int x1), (2, .int x2)], [])) rfl rfl c2 ?_
      refine rsn 1 (t := (15, [(0, .int x0), (1, .int x1), (2, .int x2)], [.int 0])) rfl ?_
      cases h
      exact rret rfl ⟨rfl, rfl, _, _, rfl, rfl, rfl, rfl⟩
    · rw [if_neg c2] at h
      refine rjf (a := (14, [(0, .int x0), (1, .int x1), (2, .int x2)], [])) (b := (10, [(0, .int x0), (1, .int x1), (2, .int x2)], [])) rfl rfl c2 ?_
      refine rsn 2 (t := (15, [(0, .int x0), (1, .int x1), (2, .int x2)], [.int 1])) rfl ?_
      cases h
      exact rret rfl ⟨rfl, rfl, _, _, rfl, rfl, rfl, rfl⟩
def f_Mo_isLetter (N : Nat) (x0 : Int32) : Option (Int32) := (if x0 < 97 then some 0 else (if 122 < x0 then some 0 else some 1))
set_option maxRecDepth 20000 in
set_option maxHeartbeats 4000000 in
theorem e_Mo_isLetter {xs : Nat → Int32} {L : Nat} {al : Bool} (N : Nat) {d : Nat} (hd : 1 ≤ d) {w : Wd} {x0 : Int32} {r0 : Int32} (h : f_Mo_isLetter N x0 = some r0) : Ev xs L al d 149 [.int x0] w (some (.int r0)) w := by
  obtain ⟨d, rfl⟩ : ∃ e, d = e + 1 := ⟨d - 1, by omega⟩
  refine ev_of (by decide) (Nat.le_of_ble_eq_true rfl) ?_
  rw [f_Mo_isLetter] at h
  show RN xs L al (Ev xs L al d) 149 0 [(0, .int x0)] [] w (some (.int r0)) w
  refine rsn 2 (t := (3, [(0, .int x0)], [.int 97, .int x0])) rfl ?_
  by_cases c1 : x0 < 97
  · rw [if_pos c1] at h
    refine rjt (a := (16, [(0, .int x0)], [])) (b := (6, [(0, .int x0)], [])) rfl rfl c1 ?_
    refine rsn 1 (t := (17, [(0, .int x0)], [.int 0])) rfl ?_
    cases h
    exact rret rfl ⟨rfl, rfl, _, _, rfl, rfl, rfl, rfl⟩
  · rw [if_neg c1] at h
    refine rjf (a := (16, [(0, .int x0)], [])) (b := (6, [(0, .int x0)], [])) rfl rfl c1 ?_
    refine rsn 2 (t := (9, [(0, .int x0)], [.int 122, .int x0])) rfl ?_
    by_cases c2 : 122 < x0
    · rw [if_pos c2] at h
      refine rjt (a := (16, [(0, .int x0)], [])) (b := (12, [(0, .int x0)], [])) rfl rfl c2 ?_
      refine rsn 1 (t := (17, [(0, .int x0)], [.int 0])) rfl ?_
      cases h
      exact rret rfl ⟨rfl, rfl, _, _, rfl, rfl, rfl, rfl⟩
    · rw [if_neg c2] at h
      refine rjf (a := (16, [(0, .int x0)], [])) (b := (12, [(0, .int x0)], [])) rfl rfl c2 ?_
      refine rsn 2 (t := (17, [(0, .int x0)], [.int 1])) rfl ?_
      cases h
      exact rret rfl ⟨rfl, rfl, _, _, rfl, rfl, rfl, rfl⟩
def f_Mo_isDigit (N : Nat) (x0 : Int32) : Option (Int32) := (if x0 < 48 then some 0 else (if 57 < x0 then some 0 else some 1))
set_option maxRecDepth 20000 in
set_option maxHeartbeats 4000000 in
theorem e_Mo_isDigit {xs : Nat → Int32} {L : Nat} {al : Bool} (N : Nat) {d : Nat} (hd : 1 ≤ d) {w : Wd} {x0 : Int32} {r0 : Int32} (h : f_Mo_isDigit N x0 = some r0) : Ev xs L al d 150 [.int x0] w (some (.int r0)) w := by
  obtain ⟨d, rfl⟩ : ∃ e, d = e + 1 := ⟨d - 1, by omega⟩
  refine ev_of (by decide) (Nat.le_of_ble_eq_true rfl) ?_
  rw [f_Mo_isDigit] at h
  show RN xs L al (Ev xs L al d) 150 0 [(0, .int x0)] [] w (some (.int r0)) w
  refine rsn 2 (t := (3, [(0, .int x0)], [.int 48, .int x0])) rfl ?_
  by_cases c1 : x0 < 48
  · rw [if_pos c1] at h
    refine rjt (a := (16, [(0, .int x0)], [])) (b := (6, [(0, .int x0)], [])) rfl rfl c1 ?_
    refine rsn 1 (t := (17, [(0, .int x0)], [.int 0])) rfl ?_
    cases h
    exact rret rfl ⟨rfl, rfl, _, _, rfl, rfl, rfl, rfl⟩
  · rw [if_neg c1] at h
    refine rjf (a := (16, [(0, .int x0)], [])) (b := (6, [(0, .int x0)], [])) rfl rfl c1 ?_
    refine rsn 2 (t := (9, [(0, .int x0)], [.int 57, .int x0])) rfl ?_
    by_cases c2 : 57 < x0
    · rw [if_pos c2] at h
      refine rjt (a := (16, [(0, .int x0)], [])) (b := (12, [(0, .int x0)], [])) rfl rfl c2 ?_
      refine rsn 1 (t := (17, [(0, .int x0)], [.int 0])) rfl ?_
      cases h
      exact rret rfl ⟨rfl, rfl, _, _, rfl, rfl, rfl, rfl⟩
    · rw [if_neg c2] at h
      refine rjf (a := (16, [(0, .int x0)], [])) (b := (12, [(0, .int x0)], [])) rfl rfl c2 ?_
      refine rsn 2 (t := (17, [(0, .int x0)], [.int 1])) rfl ?_
      cases h
      exact rret rfl ⟨rfl, rfl, _, _, rfl, rfl, rfl, rfl⟩
def f_String_coder (N : Nat) (x0 : Nat) : Option (Int32) := some 0
set_option maxRecDepth 20000 in
set_option maxHeartbeats 4000000 in
theorem e_String_coder {xs : Nat → Int32} {L : Nat} {al : Bool} (N : Nat) {d : Nat} (hd : 1 ≤ d) {w : Wd} {x0 : Nat} (hx0 : x0 < 8) {r0 : Int32} (h : f_String_coder N x0 = some r0) : Ev xs L al d 155 [.retAddr x0] w (some (.int r0)) w := by
  obtain ⟨d, rfl⟩ : ∃ e, d = e + 1 := ⟨d - 1, by omega⟩
  refine ev_of (by decide) (Nat.le_of_ble_eq_true rfl) ?_
  rw [f_String_coder] at h
  show RN xs L al (Ev xs L al d) 155 0 [(0, .retAddr x0)] [] w (some (.int r0)) w
  refine rm (st1 := [.int 1]) rfl ⟨rfl, rfl, rfl, Or.inl ⟨rfl, rfl⟩⟩ ?_
  refine rsn 2 (t := (7, [(0, .retAddr x0)], [.retAddr x0])) rfl ?_
  refine rm (st1 := [.int 0]) rfl ⟨rfl, rfl, Or.inr ⟨x0, _, hx0, rfl, rfl, Or.inr ⟨rfl, rfl⟩⟩⟩ ?_
  refine rsn 1 (t := (14, [(0, .retAddr x0)], [.int 0])) rfl ?_
  cases h
  exact rret rfl ⟨rfl, rfl, _, _, rfl, rfl, rfl, rfl⟩
def f_String_length (N : Nat) (x0 : Nat) : Option (Int32) := b1 (f_String_coder N x0) fun r1 => some ((isr ((Int32.ofNat (sLen.getD x0 0))) r1))
set_option maxRecDepth 20000 in
set_option maxHeartbeats 4000000 in
theorem e_String_length {xs : Nat → Int32} {L : Nat} {al : Bool} (N : Nat) {d : Nat} (hd : 2 ≤ d) {w : Wd} {x0 : Nat} (hx0 : x0 < 8) {r0 : Int32} (h : f_String_length N x0 = some r0) : Ev xs L al d 154 [.retAddr x0] w (some (.int r0)) w := by
  obtain ⟨d, rfl⟩ : ∃ e, d = e + 1 := ⟨d - 1, by omega⟩
  refine ev_of (by decide) (Nat.le_of_ble_eq_true rfl) ?_
  rw [f_String_length] at h
  show RN xs L al (Ev xs L al d) 154 0 [(0, .retAddr x0)] [] w (some (.int r0)) w
  refine rsn 1 (t := (1, [(0, .retAddr x0)], [.retAddr x0])) rfl ?_
  refine rm (st1 := [.retAddr (100 + x0)]) rfl ⟨rfl, rfl, Or.inr ⟨x0, _, hx0, rfl, rfl, Or.inl ⟨rfl, rfl⟩⟩⟩ ?_
  refine rm (st1 := [.int ((Int32.ofNat (sLen.getD x0 0)))]) rfl ⟨rfl, rfl, Or.inr (Or.inl ⟨x0, _, hx0, rfl, rfl⟩)⟩ ?_
  refine rsn 1 (t := (6, [(0, .retAddr x0)], [.retAddr x0, .int ((Int32.ofNat (sLen.getD x0 0)))])) rfl ?_
  obtain ⟨r1, g1, h⟩ := b1_some h
  refine rcQ 155 x0 [] rfl rfl rfl hx0 (Nat.le_of_ble_eq_true rfl) rfl (e_String_coder N (by omega) hx0 g1) ?_
  show RN xs L al (Ev xs L al d) 154 9 [(0, .retAddr x0)] [.int r1, .int ((Int32.ofNat (sLen.getD x0 0)))] w (some (.int r0)) w
  refine rsn 1 (t := (10, [(0, .retAddr x0)], [.int ((isr ((Int32.ofNat (sLen.getD x0 0))) r1))])) rfl ?_
  cases h
  exact rret rfl ⟨rfl, rfl, _, _, rfl, rfl, rfl, rfl⟩
def f_String_isLatin1 (N : Nat) (x0 : Nat) : Option (Int32) := some 1
set_option maxRecDepth 20000 in
set_option maxHeartbeats 4000000 in
theorem e_String_isLatin1 {xs : Nat → Int32} {L : Nat} {al : Bool} (N : Nat) {d : Nat} (hd : 1 ≤ d) {w : Wd} {x0 : Nat} (hx0 : x0 < 8) {r0 : Int32} (h : f_String_isLatin1 N x0 = some r0) : Ev xs L al d 157 [.retAddr x0] w (some (.int r0)) w := by
  obtain ⟨d, rfl⟩ : ∃ e, d = e + 1 := ⟨d - 1, by omega⟩
  refine ev_of (by decide) (Nat.le_of_ble_eq_true rfl) ?_
  rw [f_String_isLatin1] at h
  show RN xs L al (Ev xs L al d) 157 0 [(0, .retAddr x0)] [] w (some (.int r0)) w
  refine rm (st1 := [.int 1]) rfl ⟨rfl, rfl, rfl, Or.inl ⟨rfl, rfl⟩⟩ ?_
  refine rsn 2 (t := (7, [(0, .retAddr x0)], [.retAddr x0])) rfl ?_
  refine rm (st1 := [.int 0]) rfl ⟨rfl, rfl, Or.inr ⟨x0, _, hx0, rfl, rfl, Or.inr ⟨rfl, rfl⟩⟩⟩ ?_
  refine rsn 3 (t := (18, [(0, .retAddr x0)], [.int 1])) rfl ?_
  cases h
  exact rret rfl ⟨rfl, rfl, _, _, rfl, rfl, rfl, rfl⟩
def f_Preconditions_checkIndex (N : Nat) (x0 : Int32) (x1 : Int32) : Option (Int32) := (if x0 < 0 then none else (if x0 < x1 then some x0 else none))
set_option maxRecDepth 20000 in
set_option maxHeartbeats 4000000 in
theorem e_Preconditions_checkIndex {xs : Nat → Int32} {L : Nat} {al : Bool} (N : Nat) {d : Nat} (hd : 1 ≤ d) {w : Wd} {x0 : Int32} {x1 : Int32} {r0 : Int32} (h : f_Preconditions_checkIndex N x0 x1 = some r0) : Ev xs L al d 160 [.int x0, .int x1, .float 0] w (some (.int r0)) w := by
  obtain ⟨d, rfl⟩ : ∃ e, d = e + 1 := ⟨d - 1, by omega⟩
  refine ev_of (by decide) (Nat.le_of_ble_eq_true rfl) ?_
  rw [f_Preconditions_checkIndex] at h
  show RN xs L al (Ev xs L al d) 160 0 [(0, .int x0), (1, .int x1), (2, .float 0)] [] w (some (.int r0)) w
  refine rsn 1 (t := (1, [(0, .int x0), (1, .int x1), (2, .float 0)], [.int x0])) rfl ?_
  by_cases c1 : x0 < 0
  · rw [if_pos c1] at h
    refine rjt (a := (9, [(0, .int x0), (1, .int x1), (2, .float 0)], [])) (b := (4, [(0, .int x0), (1, .int x1), (2, .float 0)], [])) rfl rfl c1 ?_
    cases h
  · rw [if_neg c1] at h
    refine rjf (a := (9, [(0, .int x0), (1, .int x1), (2, .float 0)], [])) (b := (4, [(0, .int x0), (1, .int x1), (2, .float 0)], [])) rfl rfl c1 ?_
    refine rsn 2 (t := (6, [(0, .int x0), (1, .int x1), (2, .float 0)], [.int x1, .int x0])) rfl ?_
    by_cases c2 : x0 < x1
    · rw [if_pos c2] at h
      refine rjt (a := (16, [(0, .int x0), (1, .int x1), (2, .float 0)], [])) (b := (9, [(0, .int x0), (1, .int x1), (2, .float 0)], [])) rfl rfl c2 ?_
      refine rsn 1 (t := (17, [(0, .int x0), (1, .int x1), (2, .float 0)], [.int x0])) rfl ?_
      cases h
      exact rret rfl ⟨rfl, rfl, _, _, rfl, rfl, rfl, rfl⟩
    · rw [if_neg c2] at h
      refine rjf (a := (16, [(0, .int x0), (1, .int x1), (2, .float 0)], [])) (b := (9, [(0, .int x0), (1, .int x1), (2, .float 0)], [])) rfl rfl c2 ?_
      cases h
def f_String_checkIndex (N : Nat) (x0 : Int32) (x1 : Int32) : Option (Unit) := b1 (f_Preconditions_checkIndex N x0 x1) fun r1 => some ()
set_option maxRecDepth 20000 in
set_option maxHeartbeats 4000000 in
theorem e_String_checkIndex {xs : Nat → Int32} {L : Nat} {al : Bool} (N : Nat) {d : Nat} (hd : 2 ≤ d) {w : Wd} {x0 : Int32} {x1 : Int32} {r0 : Unit} (h : f_String_checkIndex N x0 x1 = some r0) : Ev xs L al d 159 [.int x0, .int x1] w none w := by
  obtain ⟨d, rfl⟩ : ∃ e, d = e + 1 := ⟨d - 1, by omega⟩
  refine ev_of (by decide) (Nat.le_of_ble_eq_true rfl) ?_
  rw [f_String_checkIndex] at h
  show RN xs L al (Ev xs L al d) 159 0 [(0, .int x0), (1, .int x1)] [] w none w
  refine rsn 2 (t := (2, [(0, .int x0), (1, .int x1)], [.int x1, .int x0])) rfl ?_
  refine rm (st1 := [.float 0, .int x1, .int x0]) rfl ⟨rfl, rfl, rfl, Or.inr ⟨rfl, rfl⟩⟩ ?_
  obtain ⟨r1, g1, h⟩ := b1_some h
  refine rcS 160 [.int x0, .int x1, .float 0] rfl rfl rfl (Nat.le_of_ble_eq_true rfl) rfl (e_Preconditions_checkIndex N (by omega) g1) ?_
  show RN xs L al (Ev xs L al d) 159 8 [(0, .int x0), (1, .int x1)] [.int r1] w none w
  refine rsn 1 (t := (9, [(0, .int x0), (1, .int x1)], [])) rfl ?_
  cases h
  exact rret rfl ⟨rfl, rfl, rfl, rfl, rfl⟩
def f_StringLatin1_charAt (N : Nat) (x0 : Nat) (x1 : Int32) : Option (Int32) := b1 (f_String_checkIndex N x1 ((Int32.ofNat (sLen.getD x0 0)))) fun _ => ck (ix x1 (sLen.getD x0 0)) (ck (narrow .char (.int ((i2c (((((sByt.getD x0 []).getD x1.toNatClampNeg 0)) &&& 255))))) = .int ((i2c (((((sByt.getD x0 []).getD x1.toNatClampNeg 0)) &&& 255))))) (some ((i2c (((((sByt.getD x0 []).getD x1.toNatClampNeg 0)) &&& 255))))))
set_option maxRecDepth 20000 in
set_option maxHeartbeats 4000000 in
theorem e_StringLatin1_charAt {xs : Nat → Int32} {L : Nat} {al : Bool} (N : Nat) {d : Nat} (hd : 3 ≤ d) {w : Wd} {x0 : Nat} {x1 : Int32} (hx0 : x0 < 8) {r0 : Int32} (h : f_StringLatin1_charAt N x0 x1 = some r0) : Ev xs L al d 158 [.retAddr (100 + x0), .int x1] w (some (.int r0)) w := by
  obtain ⟨d, rfl⟩ : ∃ e, d = e + 1 := ⟨d - 1, by omega⟩
  refine ev_of (by decide) (Nat.le_of_ble_eq_true rfl) ?_
  rw [f_StringLatin1_charAt] at h
  show RN xs L al (Ev xs L al d) 158 0 [(0, .retAddr (100 + x0)), (1, .int x1)] [] w (some (.int r0)) w
  refine rsn 2 (t := (2, [(0, .retAddr (100 + x0)), (1, .int x1)], [.retAddr (100 + x0), .int x1])) rfl ?_
  refine rm (st1 := [.int ((Int32.ofNat (sLen.getD x0 0))), .int x1]) rfl ⟨rfl, rfl, Or.inr (Or.inl ⟨x0, _, hx0, rfl, rfl⟩)⟩ ?_
  obtain ⟨_, g1, h⟩ := b1_some h
  refine rcS 159 [.int x1, .int ((Int32.ofNat (sLen.getD x0 0)))] rfl rfl rfl (Nat.le_of_ble_eq_true rfl) rfl (e_String_checkIndex N (by omega) g1) ?_
  show RN xs L al (Ev xs L al d) 158 6 [(0, .retAddr (100 + x0)), (1, .int x1)] [] w (some (.int r0)) w
  refine rsn 2 (t := (8, [(0, .retAddr (100 + x0)), (1, .int x1)], [.int x1, .retAddr (100 + x0)])) rfl ?_
  obtain ⟨c2, h⟩ := ck_some h
  refine rm (st1 := [.int (((sByt.getD x0 []).getD x1.toNatClampNeg 0))]) rfl ⟨rfl, rfl, Or.inr ⟨x0, _, _, hx0, rfl, c2, rfl⟩⟩ ?_
  refine rsn 3 (t := (14, [(0, .retAddr (100 + x0)), (1, .int x1)], [.int ((i2c (((((sByt.getD x0 []).getD x1.toNatClampNeg 0)) &&& 255))))])) rfl ?_
  obtain ⟨c3, h⟩ := ck_some h
  cases h
  exact rret rfl ⟨rfl, rfl, _, _, rfl, rfl, rfl, c3⟩
def f_String_charAt (N : Nat) (x0 : Nat) (x1 : Int32) : Option (Int32) := b1 (f_String_isLatin1 N x0) fun r1 => (if r1 = 0 then none else b1 (f_StringLatin1_charAt N x0 x1) fun r3 => ck (narrow .char (.int r3) = .int r3) (some r3))
set_option maxRecDepth 20000 in
set_option maxHeartbeats 4000000 in
theorem e_String_charAt {xs : Nat → Int32} {L : Nat} {al : Bool} (N : Nat) {d : Nat} (hd : 4 ≤ d) {w : Wd} {x0 : Nat} {x1 : Int32} (hx0 : x0 < 8) {r0 : Int32} (h : f_String_charAt N x0 x1 = some r0) : Ev xs L al d 156 [.retAddr x0, .int x1] w (some (.int r0)) w := by
  obtain ⟨d, rfl⟩ : ∃ e, d = e + 1 := ⟨d - 1, by omega⟩
  refine ev_of (by decide) (Nat.le_of_ble_eq_true rfl) ?_
  rw [f_String_charAt] at h
  show RN xs L al (Ev xs L al d) 156 0 [(0, .retAddr x0), (1, .int x1)] [] w (some (.int r0)) w
  refine rsn 1 (t := (1, [(0, .retAddr x0), (1, .int x1)], [.retAddr x0])) rfl ?_
  obtain ⟨r1, g1, h⟩ := b1_some h
  refine rcQ 157 x0 [] rfl rfl rfl hx0 (Nat.le_of_ble_eq_true rfl) rfl (e_String_isLatin1 N (by omega) hx0 g1) ?_
  show RN xs L al (Ev xs L al d) 156 4 [(0, .retAddr x0), (1, .int x1)] [.int r1] w (some (.int r0)) w
  by_cases c2 : r1 = 0
  · rw [if_pos c2] at h
    refine rjt (a := (16, [(0, .retAddr x0), (1, .int x1)], [])) (b := (7, [(0, .retAddr x0), (1, .int x1)], [])) rfl rfl c2 ?_
    cases h
  · rw [if_neg c2] at h
    refine rjf (a := (16, [(0, .retAddr x0), (1, .int x1)], [])) (b := (7, [(0, .retAddr x0), (1, .int x1)], [])) rfl rfl c2 ?_
    refine rsn 1 (t := (8, [(0, .retAddr x0), (1, .int x1)], [.retAddr x0])) rfl ?_
    refine rm (st1 := [.retAddr (100 + x0)]) rfl ⟨rfl, rfl, Or.inr ⟨x0, _, hx0, rfl, rfl, Or.inl ⟨rfl, rfl⟩⟩⟩ ?_
    refine rsn 1 (t := (12, [(0, .retAddr x0), (1, .int x1)], [.int x1, .retAddr (100 + x0)])) rfl ?_
    obtain ⟨r3, g3, h⟩ := b1_some h
    refine rcS 158 [.retAddr (100 + x0), .int x1] rfl rfl rfl (Nat.le_of_ble_eq_true rfl) rfl (e_StringLatin1_charAt N (by omega) hx0 g3) ?_
    show RN xs L al (Ev xs L al d) 156 15 [(0, .retAddr x0), (1, .int x1)] [.int r3] w (some (.int r0)) w
    obtain ⟨c4, h⟩ := ck_some h
    cases h
    exact rret rfl ⟨rfl, rfl, _, _, rfl, rfl, rfl, c4⟩
def f_Mo_packed_L4 (N : Nat) (x0 : Nat) (k4 : Int64 → Int32 → Option (Int64)) : Nat → Int64 → Int32 → Option (Int64)
  | 0, _, _ => none
  | n4 + 1, x1, x3 => b1 (f_String_length N x0) fun r1 => (if r1 ≤ x3 then k4 x1 x3 else b1 (f_String_charAt N x0 x3) fun r3 => f_Mo_packed_L4 N x0 k4 n4 ((((lsl x1 8)) ||| r3.toInt64)) ((x3 + 1)))
def f_Mo_packed (N : Nat) (x0 : Nat) : Option (Int64) := f_Mo_packed_L4 N x0 (fun (z4_1 : Int64) (z4_3 : Int32) => some z4_1) N 0 0
set_option maxRecDepth 20000 in
set_option maxHeartbeats 4000000 in
theorem e_Mo_packed {xs : Nat → Int32} {L : Nat} {al : Bool} (N : Nat) {d : Nat} (hd : 5 ≤ d) {w : Wd} {x0 : Nat} (hx0 : x0 < 8) {r0 : Int64} (h : f_Mo_packed N x0 = some r0) : Ev xs L al d 153 [.retAddr x0] w (some (.long r0)) w := by
  obtain ⟨d, rfl⟩ : ∃ e, d = e + 1 := ⟨d - 1, by omega⟩
  refine ev_of (by decide) (Nat.le_of_ble_eq_true rfl) ?_
  rw [f_Mo_packed] at h
  show RN xs L al (Ev xs L al d) 153 0 [(0, .retAddr x0)] [] w (some (.long r0)) w
  refine rsn 4 (t := (4, [(3, .int 0), (1, .long 0), (0, .retAddr x0)], [])) rfl ?_
  have ex4 : ∀ (z4_1 : Int64) (z4_3 : Int32), (some z4_1) = some r0 → RN xs L al (Ev xs L al d) 153 30 [(1, .long z4_1)] [] w (some (.long r0)) w := by
    intro z4_1 z4_3 h
    try dsimp only at h
    refine rsn 1 (t := (31, [(1, .long z4_1)], [.long z4_1])) rfl ?_
    cases h
    exact rret rfl ⟨rfl, rfl, _, rfl, rfl, rfl⟩
  have lp4 : ∀ (n : Nat) (y5_1 : Int64) (y5_3 : Int32), (f_Mo_packed_L4 N x0 (fun (z4_1 : Int64) (z4_3 : Int32) => some z4_1) n y5_1 y5_3) = some r0 → RN xs L al (Ev xs L al d) 153 4 [(0, .retAddr x0), (1, .long y5_1), (3, .int y5_3)] [] w (some (.long r0)) w := by
    intro n
    induction n with
    | zero => intro y5_1 y5_3 h; exact absurd h (by simp [f_Mo_packed_L4])
    | succ n4 ih4 =>
      intro y5_1 y5_3 h
      try dsimp only at h
      rw [f_Mo_packed_L4] at h
      try dsimp only at h
      refine rsn 2 (t := (6, [(0, .retAddr x0), (1, .long y5_1), (3, .int y5_3)], [.retAddr x0, .int y5_3])) rfl ?_
      obtain ⟨r6, g6, h⟩ := b1_some h
      refine rcQ 154 x0 [] rfl rfl rfl hx0 (Nat.le_of_ble_eq_true rfl) rfl (e_String_length N (by omega) hx0 g6) ?_
      show RN xs L al (Ev xs L al d) 153 9 [(0, .retAddr x0), (1, .long y5_1), (3, .int y5_3)] [.int r6, .int y5_3] w (some (.long r0)) w
      by_cases c7 : r6 ≤ y5_3
      · rw [if_pos c7] at h
        refine rjt (a := (30, [(0, .retAddr x0), (1, .long y5_1), (3, .int y5_3)], [])) (b := (12, [(0, .retAddr x0), (1, .long y5_1), (3, .int y5_3)], [])) rfl rfl c7 ?_
        exact rsub [(1, .long y5_1)] ⟨rfl, trivial⟩ ⟨rfl, trivial⟩ (ex4 y5_1 y5_3 h)
      · rw [if_neg c7] at h
        refine rjf (a := (30, [(0, .retAddr x0), (1, .long y5_1), (3, .int y5_3)], [])) (b := (12, [(0, .retAddr x0), (1, .long y5_1), (3, .int y5_3)], [])) rfl rfl c7 ?_
        refine rsn 2 (t := (15, [(0, .retAddr x0), (1, .long y5_1), (3, .int y5_3)], [.int 8, .long y5_1])) rfl ?_
        refine rsn 1 (t := (16, [(0, .retAddr x0), (1, .long y5_1), (3, .int y5_3)], [.long ((lsl y5_1 8))])) rfl ?_
        refine rsn 2 (t := (18, [(0, .retAddr x0), (1, .long y5_1), (3, .int y5_3)], [.int y5_3, .retAddr x0, .long ((lsl y5_1 8))])) rfl ?_
        obtain ⟨r8, g8, h⟩ := b1_some h
        refine rcQ 156 x0 [.int y5_3] rfl rfl rfl hx0 (Nat.le_of_ble_eq_true rfl) rfl (e_String_charAt N (by omega) hx0 g8) ?_
        show RN xs L al (Ev xs L al d) 153 21 [(0, .retAddr x0), (1, .long y5_1), (3, .int y5_3)] [.int r8, .long ((lsl y5_1 8))] w (some (.long r0)) w
        refine rsn 5 (t := (4, [(3, .int ((y5_3 + 1))), (1, .long ((((lsl y5_1 8)) ||| r8.toInt64))), (0, .retAddr x0)], [])) rfl ?_
        exact rsub [(0, .retAddr x0), (1, .long ((((lsl y5_1 8)) ||| r8.toInt64))), (3, .int ((y5_3 + 1)))] ⟨rfl, ⟨rfl, ⟨rfl, trivial⟩⟩⟩ ⟨rfl, ⟨rfl, ⟨rfl, trivial⟩⟩⟩ (ih4 ((((lsl y5_1 8)) ||| r8.toInt64)) ((y5_3 + 1)) h)
  exact rsub [(0, .retAddr x0), (1, .long 0), (3, .int 0)] ⟨rfl, ⟨rfl, ⟨rfl, trivial⟩⟩⟩ ⟨rfl, ⟨rfl, ⟨rfl, trivial⟩⟩⟩ (lp4 N 0 0 h)
def f_Mo_hasCome (N : Nat) (x0 : Int64) (x2 : Int32) : Option (Int32) := (if ((((lsr x0 ((36 + x2)))) &&& 1)) = 1 then some 1 else some 0)
set_option maxRecDepth 20000 in
set_option maxHeartbeats 4000000 in
theorem e_Mo_hasCome {xs : Nat → Int32} {L : Nat} {al : Bool} (N : Nat) {d : Nat} (hd : 1 ≤ d) {w : Wd} {x0 : Int64} {x2 : Int32} {r0 : Int32} (h : f_Mo_hasCome N x0 x2 = some r0) : Ev xs L al d 173 [.long x0, .int x2] w (some (.int r0)) w := by
  obtain ⟨d, rfl⟩ : ∃ e, d = e + 1 := ⟨d - 1, by omega⟩
  refine ev_of (by decide) (Nat.le_of_ble_eq_true rfl) ?_
  rw [f_Mo_hasCome] at h
  show RN xs L al (Ev xs L al d) 173 0 [(0, .long x0), (2, .int x2)] [] w (some (.int r0)) w
  refine rsn 4 (t := (5, [(0, .long x0), (2, .int x2)], [.int ((36 + x2)), .long x0])) rfl ?_
  refine rsn 1 (t := (6, [(0, .long x0), (2, .int x2)], [.long ((lsr x0 ((36 + x2))))])) rfl ?_
  refine rsn 4 (t := (10, [(0, .long x0), (2, .int x2)], [.int ((lg_cmp ((((lsr x0 ((36 + x2)))) &&& 1)) 1))])) rfl ?_
  by_cases c1 : ((((lsr x0 ((36 + x2)))) &&& 1)) = 1
  · rw [if_pos c1] at h
    refine rjf (a := (17, [(0, .long x0), (2, .int x2)], [])) (b := (13, [(0, .long x0), (2, .int x2)], [])) rfl rfl (fun q => q (lgc_eq.mpr c1)) ?_
    refine rsn 2 (t := (18, [(0, .long x0), (2, .int x2)], [.int 1])) rfl ?_
    cases h
    exact rret rfl ⟨rfl, rfl, _, _, rfl, rfl, rfl, rfl⟩
  · rw [if_neg c1] at h
    refine rjt (a := (17, [(0, .long x0), (2, .int x2)], [])) (b := (13, [(0, .long x0), (2, .int x2)], [])) rfl rfl (fun q => c1 (lgc_eq.mp q)) ?_
    refine rsn 1 (t := (18, [(0, .long x0), (2, .int x2)], [.int 0])) rfl ?_
    cases h
    exact rret rfl ⟨rfl, rfl, _, _, rfl, rfl, rfl, rfl⟩
def f_Mo_things (N : Nat) (x0 : Int64) (x2 : Int32) (x3 : Int32) : Option (Int32) := some (((((lsr x0 ((3 * ((((3 * x2)) + x3)))))).toInt32) &&& 7))
set_option maxRecDepth 20000 in
set_option maxHeartbeats 4000000 in
theorem e_Mo_things {xs : Nat → Int32} {L : Nat} {al : Bool} (N : Nat) {d : Nat} (hd : 1 ≤ d) {w : Wd} {x0 : Int64} {x2 : Int32} {x3 : Int32} {r0 : Int32} (h : f_Mo_things N x0 x2 x3 = some r0) : Ev xs L al d 174 [.long x0, .int x2, .int x3] w (some (.int r0)) w := by
  obtain ⟨d, rfl⟩ : ∃ e, d = e + 1 := ⟨d - 1, by omega⟩
  refine ev_of (by decide) (Nat.le_of_ble_eq_true rfl) ?_
  rw [f_Mo_things] at h
  show RN xs L al (Ev xs L al d) 174 0 [(0, .long x0), (2, .int x2), (3, .int x3)] [] w (some (.int r0)) w
  refine rsn 8 (t := (8, [(0, .long x0), (2, .int x2), (3, .int x3)], [.int ((3 * ((((3 * x2)) + x3)))), .long x0])) rfl ?_
  refine rsn 1 (t := (9, [(0, .long x0), (2, .int x2), (3, .int x3)], [.long ((lsr x0 ((3 * ((((3 * x2)) + x3))))))])) rfl ?_
  refine rsn 3 (t := (13, [(0, .long x0), (2, .int x2), (3, .int x3)], [.int (((((lsr x0 ((3 * ((((3 * x2)) + x3)))))).toInt32) &&& 7))])) rfl ?_
  cases h
  exact rret rfl ⟨rfl, rfl, _, _, rfl, rfl, rfl, rfl⟩
def f_Mo_held (N : Nat) (x0 : Int64) : Option (Int32) := b1 (f_Mo_things N x0 3 0) fun r1 => b1 (f_Mo_things N x0 3 1) fun r2 => b1 (f_Mo_things N x0 3 2) fun r3 => some ((((r1 + r2)) + r3))
set_option maxRecDepth 20000 in
set_option maxHeartbeats 4000000 in
theorem e_Mo_held {xs : Nat → Int32} {L : Nat} {al : Bool} (N : Nat) {d : Nat} (hd : 2 ≤ d) {w : Wd} {x0 : Int64} {r0 : Int32} (h : f_Mo_held N x0 = some r0) : Ev xs L al d 181 [.long x0] w (some (.int r0)) w := by
  obtain ⟨d, rfl⟩ : ∃ e, d = e + 1 := ⟨d - 1, by omega⟩
  refine ev_of (by decide) (Nat.le_of_ble_eq_true rfl) ?_
  rw [f_Mo_held] at h
  show RN xs L al (Ev xs L al d) 181 0 [(0, .long x0)] [] w (some (.int r0)) w
  refine rsn 3 (t := (3, [(0, .long x0)], [.int 0, .int 3, .long x0])) rfl ?_
  obtain ⟨r1, g1, h⟩ := b1_some h
  refine rcS 174 [.long x0, .int 3, .int 0] rfl rfl rfl (Nat.le_of_ble_eq_true rfl) rfl (e_Mo_things N (by omega) g1) ?_
  show RN xs L al (Ev xs L al d) 181 6 [(0, .long x0)] [.int r1] w (some (.int r0)) w
  refine rsn 3 (t := (9, [(0, .long x0)], [.int 1, .int 3, .long x0, .int r1])) rfl ?_
  obtain ⟨r2, g2, h⟩ := b1_some h
  refine rcS 174 [.long x0, .int 3, .int 1] rfl rfl rfl (Nat.le_of_ble_eq_true rfl) rfl (e_Mo_things N (by omega) g2) ?_
  show RN xs L al (Ev xs L al d) 181 12 [(0, .long x0)] [.int r2, .int r1] w (some (.int r0)) w
  refine rsn 4 (t := (16, [(0, .long x0)], [.int 2, .int 3, .long x0, .int ((r1 + r2))])) rfl ?_
  obtain ⟨r3, g3, h⟩ := b1_some h
  refine rcS 174 [.long x0, .int 3, .int 2] rfl rfl rfl (Nat.le_of_ble_eq_true rfl) rfl (e_Mo_things N (by omega) g3) ?_
  show RN xs L al (Ev xs L al d) 181 19 [(0, .long x0)] [.int r3, .int ((r1 + r2))] w (some (.int r0)) w
  refine rsn 1 (t := (20, [(0, .long x0)], [.int ((((r1 + r2)) + r3))])) rfl ?_
  cases h
  exact rret rfl ⟨rfl, rfl, _, _, rfl, rfl, rfl, rfl⟩
def f_Mo_mayGive (N : Nat) (x0 : Int64) (x2 : Int32) (x3 : Int32) : Option (Int32) := (if x2 = 3 then b1 (f_Mo_held N x0) fun r6 => (if x3 ≤ r6 then some 0 else some 1) else b1 (f_Mo_in N x2 0 2) fun r2 => (if r2 = 0 then some 0 else b1 (f_Mo_hasCome N x0 x2) fun r4 => (if r4 = 0 then some 0 else some 1)))
set_option maxRecDepth 20000 in
set_option maxHeartbeats 4000000 in
theorem e_Mo_mayGive {xs : Nat → Int32} {L : Nat} {al : Bool} (N : Nat) {d : Nat} (hd : 3 ≤ d) {w : Wd} {x0 : Int64} {x2 : Int32} {x3 : Int32} {r0 : Int32} (h : f_Mo_mayGive N x0 x2 x3 = some r0) : Ev xs L al d 180 [.long x0, .int x2, .int x3] w (some (.int r0)) w := by
  obtain ⟨d, rfl⟩ : ∃ e, d = e + 1 := ⟨d - 1, by omega⟩
  refine ev_of (by decide) (Nat.le_of_ble_eq_true rfl) ?_
  rw [f_Mo_mayGive] at h
  show RN xs L al (Ev xs L al d) 180 0 [(0, .long x0), (2, .int x2), (3, .int x3)] [] w (some (.int r0)) w
  refine rsn 2 (t := (2, [(0, .long x0), (2, .int x2), (3, .int x3)], [.int 3, .int x2])) rfl ?_
  by_cases c1 : x2 = 3
  · rw [if_pos c1] at h
    refine rjf (a := (21, [(0, .long x0), (2, .int x2), (3, .int x3)], [])) (b := (5, [(0, .long x0), (2, .int x2), (3, .int x3)], [])) rfl rfl (fun q => q c1) ?_
    refine rsn 1 (t := (6, [(0, .long x0), (2, .int x2), (3, .int x3)], [.long x0])) rfl ?_
    obtain ⟨r6, g6, h⟩ := b1_some h
    refine rcS 181 [.long x0] rfl rfl rfl (Nat.le_of_ble_eq_true rfl) rfl (e_Mo_held N (by omega) g6) ?_
    show RN xs L al (Ev xs L al d) 180 9 [(0, .long x0), (2, .int x2), (3, .int x3)] [.int r6] w (some (.int r0)) w
    refine rsn 1 (t := (10, [(0, .long x0), (2, .int x2), (3, .int x3)], [.int x3, .int r6])) rfl ?_
    by_cases c7 : x3 ≤ r6
    · rw [if_pos c7] at h
      refine rjt (a := (17, [(0, .long x0), (2, .int x2), (3, .int x3)], [])) (b := (13, [(0, .long x0), (2, .int x2), (3, .int x3)], [])) rfl rfl c7 ?_
      refine rsn 2 (t := (43, [(0, .long x0), (2, .int x2), (3, .int x3)], [.int 0])) rfl ?_
      cases h
      exact rret rfl ⟨rfl, rfl, _, _, rfl, rfl, rfl, rfl⟩
    · rw [if_neg c7] at h
      refine rjf (a := (17, [(0, .long x0), (2, .int x2), (3, .int x3)], [])) (b := (13, [(0, .long x0), (2, .int x2), (3, .int x3)], [])) rfl rfl c7 ?_
      refine rsn 2 (t := (43, [(0, .long x0), (2, .int x2), (3, .int x3)], [.int 1])) rfl ?_
      cases h
      exact rret rfl ⟨rfl, rfl, _, _, rfl, rfl, rfl, rfl⟩
  · rw [if_neg c1] at h
    refine rjt (a := (21, [(0, .long x0), (2, .int x2), (3, .int x3)], [])) (b := (5, [(0, .long x0), (2, .int x2), (3, .int x3)], [])) rfl rfl c1 ?_
    refine rsn 3 (t := (24, [(0, .long x0), (2, .int x2), (3, .int x3)], [.int 2, .int 0, .int x2])) rfl ?_
    obtain ⟨r2, g2, h⟩ := b1_some h
    refine rcS 146 [.int x2, .int 0, .int 2] rfl rfl rfl (Nat.le_of_ble_eq_true rfl) rfl (e_Mo_in N (by omega) g2) ?_
    show RN xs L al (Ev xs L al d) 180 27 [(0, .long x0), (2, .int x2), (3, .int x3)] [.int r2] w (some (.int r0)) w
    by_cases c3 : r2 = 0
    · rw [if_pos c3] at h
      refine rjt (a := (42, [(0, .long x0), (2, .int x2), (3, .int x3)], [])) (b := (30, [(0, .long x0), (2, .int x2), (3, .int x3)], [])) rfl rfl c3 ?_
      refine rsn 1 (t := (43, [(0, .long x0), (2, .int x2), (3, .int x3)], [.int 0])) rfl ?_
      cases h
      exact rret rfl ⟨rfl, rfl, _, _, rfl, rfl, rfl, rfl⟩
    · rw [if_neg c3] at h
      refine rjf (a := (42, [(0, .long x0), (2, .int x2), (3, .int x3)], [])) (b := (30, [(0, .long x0), (2, .int x2), (3, .int x3)], [])) rfl rfl c3 ?_
      refine rsn 2 (t := (32, [(0, .long x0), (2, .int x2), (3, .int x3)], [.int x2, .long x0])) rfl ?_
      obtain ⟨r4, g4, h⟩ := b1_some h
      refine rcS 173 [.long x0, .int x2] rfl rfl rfl (Nat.le_of_ble_eq_true rfl) rfl (e_Mo_hasCome N (by omega) g4) ?_
      show RN xs L al (Ev xs L al d) 180 35 [(0, .long x0), (2, .int x2), (3, .int x3)] [.int r4] w (some (.int r0)) w
      by_cases c5 : r4 = 0
      · rw [if_pos c5] at h
        refine rjt (a := (42, [(0, .long x0), (2, .int x2), (3, .int x3)], [])) (b := (38, [(0, .long x0), (2, .int x2), (3, .int x3)], [])) rfl rfl c5 ?_
        refine rsn 1 (t := (43, [(0, .long x0), (2, .int x2), (3, .int x3)], [.int 0])) rfl ?_
        cases h
        exact rret rfl ⟨rfl, rfl, _, _, rfl, rfl, rfl, rfl⟩
      · rw [if_neg c5] at h
        refine rjf (a := (42, [(0, .long x0), (2, .int x2), (3, .int x3)], [])) (b := (38, [(0, .long x0), (2, .int x2), (3, .int x3)], [])) rfl rfl c5 ?_
        refine rsn 2 (t := (43, [(0, .long x0), (2, .int x2), (3, .int x3)], [.int 1])) rfl ?_
        cases h
        exact rret rfl ⟨rfl, rfl, _, _, rfl, rfl, rfl, rfl⟩
def f_Mo_one (N : Nat) (x0 : Int32) (x1 : Int32) : Option (Int64) := some ((lsl 1 ((3 * ((((3 * x0)) + x1))))))
set_option maxRecDepth 20000 in
set_option maxHeartbeats 4000000 in
theorem e_Mo_one {xs : Nat → Int32} {L : Nat} {al : Bool} (N : Nat) {d : Nat} (hd : 1 ≤ d) {w : Wd} {x0 : Int32} {x1 : Int32} {r0 : Int64} (h : f_Mo_one N x0 x1 = some r0) : Ev xs L al d 182 [.int x0, .int x1] w (some (.long r0)) w := by
  obtain ⟨d, rfl⟩ : ∃ e, d = e + 1 := ⟨d - 1, by omega⟩
  refine ev_of (by decide) (Nat.le_of_ble_eq_true rfl) ?_
  rw [f_Mo_one] at h
  show RN xs L al (Ev xs L al d) 182 0 [(0, .int x0), (1, .int x1)] [] w (some (.long r0)) w
  refine rsn 8 (t := (8, [(0, .int x0), (1, .int x1)], [.int ((3 * ((((3 * x0)) + x1)))), .long 1])) rfl ?_
  refine rsn 1 (t := (9, [(0, .int x0), (1, .int x1)], [.long ((lsl 1 ((3 * ((((3 * x0)) + x1))))))])) rfl ?_
  cases h
  exact rret rfl ⟨rfl, rfl, _, rfl, rfl, rfl⟩
def f_Mo_isGoal (N : Nat) (x0 : Int32) : Option (Int32) := b1 (f_Mo_in N x0 0 2) fun r1 => ck (r1 = 0 ∨ r1 = 1) (some r1)
set_option maxRecDepth 20000 in
set_option maxHeartbeats 4000000 in
theorem e_Mo_isGoal {xs : Nat → Int32} {L : Nat} {al : Bool} (N : Nat) {d : Nat} (hd : 2 ≤ d) {w : Wd} {x0 : Int32} {r0 : Int32} (h : f_Mo_isGoal N x0 = some r0) : Ev xs L al d 184 [.int x0] w (some (.int r0)) w := by
  obtain ⟨d, rfl⟩ : ∃ e, d = e + 1 := ⟨d - 1, by omega⟩
  refine ev_of (by decide) (Nat.le_of_ble_eq_true rfl) ?_
  rw [f_Mo_isGoal] at h
  show RN xs L al (Ev xs L al d) 184 0 [(0, .int x0)] [] w (some (.int r0)) w
  refine rsn 3 (t := (3, [(0, .int x0)], [.int 2, .int 0, .int x0])) rfl ?_
  obtain ⟨r1, g1, h⟩ := b1_some h
  refine rcS 146 [.int x0, .int 0, .int 2] rfl rfl rfl (Nat.le_of_ble_eq_true rfl) rfl (e_Mo_in N (by omega) g1) ?_
  show RN xs L al (Ev xs L al d) 184 6 [(0, .int x0)] [.int r1] w (some (.int r0)) w
  obtain ⟨c2, h⟩ := ck_some h
  cases h
  exact rret rfl ⟨rfl, rfl, _, _, rfl, rfl, rfl, nz_of c2⟩
def f_Mo_manyCame_L5 (N : Nat) (x1 : Int64) (k5 : Int32 → Int32 → Option (Int32)) : Nat → Int32 → Int32 → Option (Int32)
  | 0, _, _ => none
  | n5 + 1, x3, x4 => (if 3 ≤ x4 then k5 x3 x4 else b1 (f_Mo_hasCome N x1 x4) fun r2 => (if r2 = 0 then f_Mo_manyCame_L5 N x1 k5 n5 ((x3 + 0)) ((x4 + 1)) else f_Mo_manyCame_L5 N x1 k5 n5 ((x3 + 1)) ((x4 + 1))))
def f_Mo_manyCame (N : Nat) (x1 : Int64) : Option (Int32) := f_Mo_manyCame_L5 N x1 (fun (z4_3 : Int32) (z4_4 : Int32) => some z4_3) N 0 0
set_option maxRecDepth 20000 in
set_option maxHeartbeats 4000000 in
theorem e_Mo_manyCame {xs : Nat → Int32} {L : Nat} {al : Bool} (N : Nat) {d : Nat} (hd : 2 ≤ d) {w : Wd} {x1 : Int64} {r0 : Int32} (h : f_Mo_manyCame N x1 = some r0) : Ev xs L al d 189 [.ref 0, .long x1] w (some (.int r0)) w := by
  obtain ⟨d, rfl⟩ : ∃ e, d = e + 1 := ⟨d - 1, by omega⟩
  refine ev_of (by decide) (Nat.le_of_ble_eq_true rfl) ?_
  rw [f_Mo_manyCame] at h
  show RN xs L al (Ev xs L al d) 189 0 [(0, .ref 0), (1, .long x1)] [] w (some (.int r0)) w
  refine rsn 4 (t := (5, [(4, .int 0), (3, .int 0), (0, .ref 0), (1, .long x1)], [])) rfl ?_
  have ex5 : ∀ (z4_3 : Int32) (z4_4 : Int32), (some z4_3) = some r0 → RN xs L al (Ev xs L al d) 189 34 [(3, .int z4_3)] [] w (some (.int r0)) w := by
    intro z4_3 z4_4 h
    try dsimp only at h
    refine rsn 1 (t := (35, [(3, .int z4_3)], [.int z4_3])) rfl ?_
    cases h
    exact rret rfl ⟨rfl, rfl, _, _, rfl, rfl, rfl, rfl⟩
  have lp5 : ∀ (n : Nat) (y5_3 : Int32) (y5_4 : Int32), (f_Mo_manyCame_L5 N x1 (fun (z4_3 : Int32) (z4_4 : Int32) => some z4_3) n y5_3 y5_4) = some r0 → RN xs L al (Ev xs L al d) 189 5 [(1, .long x1), (3, .int y5_3), (4, .int y5_4)] [] w (some (.int r0)) w := by
    intro n
    induction n with
    | zero => intro y5_3 y5_4 h; exact absurd h (by simp [f_Mo_manyCame_L5])
    | succ n5 ih5 =>
      intro y5_3 y5_4 h
      try dsimp only at h
      rw [f_Mo_manyCame_L5] at h
      try dsimp only at h
      refine rsn 2 (t := (8, [(1, .long x1), (3, .int y5_3), (4, .int y5_4)], [.int 3, .int y5_4])) rfl ?_
      by_cases c6 : 3 ≤ y5_4
      · rw [if_pos c6] at h
        refine rjt (a := (34, [(1, .long x1), (3, .int y5_3), (4, .int y5_4)], [])) (b := (11, [(1, .long x1), (3, .int y5_3), (4, .int y5_4)], [])) rfl rfl c6 ?_
        exact rsub [(3, .int y5_3)] ⟨rfl, trivial⟩ ⟨rfl, trivial⟩ (ex5 y5_3 y5_4 h)
      · rw [if_neg c6] at h
        refine rjf (a := (34, [(1, .long x1), (3, .int y5_3), (4, .int y5_4)], [])) (b := (11, [(1, .long x1), (3, .int y5_3), (4, .int y5_4)], [])) rfl rfl c6 ?_
        refine rsn 3 (t := (15, [(1, .long x1), (3, .int y5_3), (4, .int y5_4)], [.int y5_4, .long x1, .int y5_3])) rfl ?_
        obtain ⟨r7, g7, h⟩ := b1_some h
        refine rcS 173 [.long x1, .int y5_4] rfl rfl rfl (Nat.le_of_ble_eq_true rfl) rfl (e_Mo_hasCome N (by omega) g7) ?_
        show RN xs L al (Ev xs L al d) 189 18 [(1, .long x1), (3, .int y5_3), (4, .int y5_4)] [.int r7, .int y5_3] w (some (.int r0)) w
        by_cases c8 : r7 = 0
        · rw [if_pos c8] at h
          refine rjt (a := (25, [(1, .long x1), (3, .int y5_3), (4, .int y5_4)], [.int y5_3])) (b := (21, [(1, .long x1), (3, .int y5_3), (4, .int y5_4)], [.int y5_3])) rfl rfl c8 ?_
          refine rsn 5 (t := (5, [(4, .int ((y5_4 + 1))), (3, .int ((y5_3 + 0))), (1, .long x1)], [])) rfl ?_
          exact rsub [(1, .long x1), (3, .int ((y5_3 + 0))), (4, .int ((y5_4 + 1)))] ⟨rfl, ⟨rfl, ⟨rfl, trivial⟩⟩⟩ ⟨rfl, ⟨rfl, ⟨rfl, trivial⟩⟩⟩ (ih5 ((y5_3 + 0)) ((y5_4 + 1)) h)
        · rw [if_neg c8] at h
          refine rjf (a := (25, [(1, .long x1), (3, .int y5_3), (4, .int y5_4)], [.int y5_3])) (b := (21, [(1, .long x1), (3, .int y5_3), (4, .int y5_4)], [.int y5_3])) rfl rfl c8 ?_
          refine rsn 6 (t := (5, [(4, .int ((y5_4 + 1))), (3, .int ((y5_3 + 1))), (1, .long x1)], [])) rfl ?_
          exact rsub [(1, .long x1), (3, .int ((y5_3 + 1))), (4, .int ((y5_4 + 1)))] ⟨rfl, ⟨rfl, ⟨rfl, trivial⟩⟩⟩ ⟨rfl, ⟨rfl, ⟨rfl, trivial⟩⟩⟩ (ih5 ((y5_3 + 1)) ((y5_4 + 1)) h)
  exact rsub [(1, .long x1), (3, .int 0), (4, .int 0)] ⟨rfl, ⟨rfl, ⟨rfl, trivial⟩⟩⟩ ⟨rfl, ⟨rfl, ⟨rfl, trivial⟩⟩⟩ (lp5 N 0 0 h)
def f_Mo_manyOf (N : Nat) (x0 : Int64) (x2 : Int32) : Option (Int32) := b1 (f_Mo_things N x0 x2 0) fun r1 => b1 (f_Mo_things N x0 x2 1) fun r2 => b1 (f_Mo_things N x0 x2 2) fun r3 => some ((((r1 + r2)) + r3))
set_option maxRecDepth 20000 in
set_option maxHeartbeats 4000000 in
theorem e_Mo_manyOf {xs : Nat → Int32} {L : Nat} {al : Bool} (N : Nat) {d : Nat} (hd : 2 ≤ d) {w : Wd} {x0 : Int64} {x2 : Int32} {r0 : Int32} (h : f_Mo_manyOf N x0 x2 = some r0) : Ev xs L al d 211 [.long x0, .int x2] w (some (.int r0)) w := by
  obtain ⟨d, rfl⟩ : ∃ e, d = e + 1 := ⟨d - 1, by omega⟩
  refine ev_of (by decide) (Nat.le_of_ble_eq_true rfl) ?_
  rw [f_Mo_manyOf] at h
  show RN xs L al (Ev xs L al d) 211 0 [(0, .long x0), (2, .int x2)] [] w (some (.int r0)) w
  refine rsn 3 (t := (3, [(0, .long x0), (2, .int x2)], [.int 0, .int x2, .long x0])) rfl ?_
  obtain ⟨r1, g1, h⟩ := b1_some h
  refine rcS 174 [.long x0, .int x2, .int 0] rfl rfl rfl (Nat.le_of_ble_eq_true rfl) rfl (e_Mo_things N (by omega) g1) ?_
  show RN xs L al (Ev xs L al d) 211 6 [(0, .long x0), (2, .int x2)] [.int r1] w (some (.int r0)) w
  refine rsn 3 (t := (9, [(0, .long x0), (2, .int x2)], [.int 1, .int x2, .long x0, .int r1])) rfl ?_
  obtain ⟨r2, g2, h⟩ := b1_some h
  refine rcS 174 [.long x0, .int x2, .int 1] rfl rfl rfl (Nat.le_of_ble_eq_true rfl) rfl (e_Mo_things N (by omega) g2) ?_
  show RN xs L al (Ev xs L al d) 211 12 [(0, .long x0), (2, .int x2)] [.int r2, .int r1] w (some (.int r0)) w
  refine rsn 4 (t := (16, [(0, .long x0), (2, .int x2)], [.int 2, .int x2, .long x0, .int ((r1 + r2))])) rfl ?_
  obtain ⟨r3, g3, h⟩ := b1_some h
  refine rcS 174 [.long x0, .int x2, .int 2] rfl rfl rfl (Nat.le_of_ble_eq_true rfl) rfl (e_Mo_things N (by omega) g3) ?_
  show RN xs L al (Ev xs L al d) 211 19 [(0, .long x0), (2, .int x2)] [.int r3, .int ((r1 + r2))] w (some (.int r0)) w
  refine rsn 1 (t := (20, [(0, .long x0), (2, .int x2)], [.int ((((r1 + r2)) + r3))])) rfl ?_
  cases h
  exact rret rfl ⟨rfl, rfl, _, _, rfl, rfl, rfl, rfl⟩
