/-! WORDS of the functions that the methods are. -/
abbrev Mm : Type := (Nat → Nat → Int32) × (Nat → Nat → Int64) × (Nat → Nat → Int32) × (Nat → Nat → Int64)
abbrev St : Type := (Nat → Nat → Option Nat) × (Nat → Nat) × (Nat → Nat) × (Nat → Nat → Option Nat) × Nat × Nat
def mI (m : Mm) (a k : Nat) : Int32 := m.1 a k
def mJ (m : Mm) (a k : Nat) : Int64 := m.2.1 a k
def mX (m : Mm) (a k : Nat) : Int32 := m.2.2.1 a k
def mYy (m : Mm) (a k : Nat) : Int64 := m.2.2.2 a k
def vI (m : Mm) (a k : Nat) (v : Int32) : Mm := (u2 m.1 a k v, m.2)
def vJ (m : Mm) (a k : Nat) (v : Int64) : Mm := (m.1, u2 m.2.1 a k v, m.2.2)
def vX (m : Mm) (a k : Nat) (v : Int32) : Mm := (m.1, m.2.1, u2 m.2.2.1 a k v, m.2.2.2)
def vY (m : Mm) (a k : Nat) (v : Int64) : Mm := (m.1, m.2.1, m.2.2.1, u2 m.2.2.2 a k v)
def ck {α : Type} (c : Prop) [Decidable c] (k : Option α) : Option α := if c then k else none
theorem ck_some {α : Type} {c : Prop} {dc : Decidable c} {k : Option α} {x : α} (h : @ck α c dc k = some x) : c ∧ k = some x := by
  unfold ck at h
  split at h
  · next hc => exact ⟨hc, h⟩
  · cases h
theorem ck_t {α : Type} {c : Prop} {dc : Decidable c} {k : Option α} (h : c) : @ck α c dc k = k := by unfold ck; rw [if_pos h]
def b1 {α β : Type} (o : Option α) (k : α → Option β) : Option β := match o with
  | none => none
  | some a => k a
def b2 {α β : Type} (o : Option (α × Mm)) (k : α → Mm → Option β) : Option β := match o with
  | none => none
  | some a => k a.1 a.2
def b3 {β : Type} (o : Option Mm) (k : Mm → Option β) : Option β := match o with
  | none => none
  | some a => k a
theorem b1_some {α β : Type} {o : Option α} {k : α → Option β} {x : β} (h : b1 o k = some x) : ∃ a, o = some a ∧ k a = some x := by
  unfold b1 at h
  split at h
  · cases h
  · exact ⟨_, rfl, h⟩
theorem b2_some {α β : Type} {o : Option (α × Mm)} {k : α → Mm → Option β} {x : β} (h : b2 o k = some x) : ∃ a m, o = some (a, m) ∧ k a m = some x := by
  unfold b2 at h
  split at h
  · cases h
  · exact ⟨_, _, rfl, h⟩
theorem b3_some {β : Type} {o : Option Mm} {k : Mm → Option β} {x : β} (h : b3 o k = some x) : ∃ m, o = some m ∧ k m = some x := by
  unfold b3 at h
  split at h
  · cases h
  · exact ⟨_, rfl, h⟩
theorem b1_s {α β : Type} {a : α} {k : α → Option β} : b1 (some a) k = k a := rfl
theorem b2_s {α β : Type} {a : α} {m : Mm} {k : α → Mm → Option β} : b2 (some (a, m)) k = k a m := rfl
theorem b3_s {β : Type} {m : Mm} {k : Mm → Option β} : b3 (some m) k = k m := rfl
/-- a common rest -/
def jn {α β : Type} (a : α) (f : α → β) : β := f a
def ius (x y : Int32) : Int32 := (x.toUInt32 >>> (y.toUInt32 &&& Int32.toUInt32 31)).toInt32
def lus (x : Int64) (y : Int32) : Int64 := (x.toUInt64 >>> (y.toInt64.toUInt64 &&& Int64.toUInt64 63)).toInt64
def lsl (x : Int64) (y : Int32) : Int64 := x <<< (y.toInt64 &&& 63)
def lsr (x : Int64) (y : Int32) : Int64 := x >>> (y.toInt64 &&& 63)
def isl (x y : Int32) : Int32 := x <<< (y &&& 31)
def isr (x y : Int32) : Int32 := x >>> (y &&& 31)
def irm (x y : Int32) : Int32 := x - x / y * y
def lrm (x y : Int64) : Int64 := x - x / y * y
def i2c (x : Int32) : Int32 := (x.toUInt32 % 65536).toInt32
/-- index i in a row of n -/
abbrev ix (i : Int32) (n : Nat) : Prop := ¬ (i < 0 ∨ n ≤ i.toNatClampNeg)
theorem lgc (x y : Int64) : (y < x ∧ lg_cmp x y = 1) ∨ (x = y ∧ lg_cmp x y = 0) ∨ (x < y ∧ lg_cmp x y = -1) := by
  by_cases h1 : y < x
  · exact Or.inl ⟨h1, by simp [lg_cmp, h1]⟩
  · by_cases h2 : x = y
    · subst h2
      exact Or.inr (Or.inl ⟨rfl, by simp [lg_cmp, h1]⟩)
    · have h3 : x < y := by
        simp only [Int64.lt_iff_toInt_lt, ← Int64.toInt_inj] at *
        omega
      exact Or.inr (Or.inr ⟨h3, by simp [lg_cmp, h1, h2]⟩)
theorem lgc_eq {x y : Int64} : lg_cmp x y = 0 ↔ x = y := by
  rcases lgc x y with ⟨h, e⟩ | ⟨h, e⟩ | ⟨h, e⟩ <;> rw [e]
  · exact ⟨fun q => absurd q (by decide), fun q => absurd q.symm (lg_lt_ne h)⟩
  · exact ⟨fun _ => h, fun _ => rfl⟩
  · exact ⟨fun q => absurd q (by decide), fun q => absurd q (lg_lt_ne h)⟩
theorem lgc_lt {x y : Int64} : lg_cmp x y < 0 ↔ x < y := by
  rcases lgc x y with ⟨h, e⟩ | ⟨h, e⟩ | ⟨h, e⟩ <;> rw [e]
  · exact ⟨fun q => absurd q (by decide), fun q => absurd q (lg_lt_not h)⟩
  · exact ⟨fun q => absurd q (by decide), fun q => absurd h (lg_lt_ne q)⟩
  · exact ⟨fun _ => h, fun _ => by decide⟩
theorem lgc_ge {x y : Int64} : 0 ≤ lg_cmp x y ↔ y ≤ x := by
  rcases lgc x y with ⟨h, e⟩ | ⟨h, e⟩ | ⟨h, e⟩ <;> rw [e]
  · exact ⟨fun _ => Int64.le_of_lt h, fun _ => by decide⟩
  · exact ⟨fun _ => by rw [h]; exact Int64.le_refl y, fun _ => by decide⟩
  · exact ⟨fun q => absurd q (by decide), fun q => absurd q (lg_lt_not_le h)⟩
theorem lgc_gt {x y : Int64} : 0 < lg_cmp x y ↔ y < x := by
  rcases lgc x y with ⟨h, e⟩ | ⟨h, e⟩ | ⟨h, e⟩ <;> rw [e]
  · exact ⟨fun _ => h, fun _ => by decide⟩
  · exact ⟨fun q => absurd q (by decide), fun q => absurd h.symm (lg_lt_ne q)⟩
  · exact ⟨fun q => absurd q (by decide), fun q => absurd h (lg_lt_not q)⟩
theorem lgc_le {x y : Int64} : lg_cmp x y ≤ 0 ↔ x ≤ y := by
  rcases lgc x y with ⟨h, e⟩ | ⟨h, e⟩ | ⟨h, e⟩ <;> rw [e]
  · exact ⟨fun q => absurd q (by decide), fun q => absurd q (lg_lt_not_le h)⟩
  · exact ⟨fun _ => by rw [h]; exact Int64.le_refl y, fun _ => by decide⟩
  · exact ⟨fun _ => Int64.le_of_lt h, fun _ => by decide⟩
/-- a static shape: kinds, lengths, references -/
def Sh (kT lT : List (Nat × Nat)) (rT : List (Nat × Nat × Nat)) (S : St) : Prop := (∀ e ∈ kT, e.1 < S.2.2.2.2.1 ∧ S.2.1 e.1 = e.2) ∧ (∀ e ∈ lT, S.2.2.1 e.1 = e.2) ∧ ∀ e ∈ rT, S.1 e.1 e.2.1 = some e.2.2
theorem Sh.k {kT lT : List (Nat × Nat)} {rT : List (Nat × Nat × Nat)} {S : St} (h : Sh kT lT rT S) {a c : Nat} (i : Nat) (hi : kT[i]? = some (a, c)) (m : Mm) : Kd (m, S) a c := h.1 (a, c) (List.mem_of_getElem? hi)
theorem Sh.l {kT lT : List (Nat × Nat)} {rT : List (Nat × Nat × Nat)} {S : St} (h : Sh kT lT rT S) {a n : Nat} (i : Nat) (hi : lT[i]? = some (a, n)) (m : Mm) : wL (m, S) a = n := h.2.1 (a, n) (List.mem_of_getElem? hi)
theorem Sh.r {kT lT : List (Nat × Nat)} {rT : List (Nat × Nat × Nat)} {S : St} (h : Sh kT lT rT S) {a k t : Nat} (i : Nat) (hi : rT[i]? = some (a, k, t)) (m : Mm) : wR (m, S) a k = some t := h.2.2 (a, k, t) (List.mem_of_getElem? hi)
theorem nz_of {x : Int32} (h : x = 0 ∨ x = 1) : narrow .boolean (.int x) = .int x := by rcases h with rfl | rfl <;> rfl
/-! The rows with the memory as a pair: what changes, and what stays. -/
section PROWS
variable {xs : Nat → Int32} {L : Nat} {al : Bool} {C : Cr} {mid pc : Nat} {lv : Lc} {rest : List Value} {m : Mm} {S : St} {r : Option Value} {w' : Wd} {i a c k0 : Nat} {j : Int32}
theorem pgI (h1 : cd mid pc = some (.getfield i, 3)) (h2 : fl (mO mid) i = some (c, k0)) (h3 : (fty c k0 == 0 || fty c k0 == 3) = true) (hk : Kd (m, S) a c) (k : RN xs L al C mid (pc + 3) lv (.int (mI m a k0) :: rest) (m, S) r w') : RN xs L al C mid pc lv (.ref a :: rest) (m, S) r w' := rgI h1 h2 h3 hk k
theorem pgJ (h1 : cd mid pc = some (.getfield i, 3)) (h2 : fl (mO mid) i = some (c, k0)) (h3 : fty c k0 = 1) (hk : Kd (m, S) a c) (k : RN xs L al C mid (pc + 3) lv (.long (mJ m a k0) :: rest) (m, S) r w') : RN xs L al C mid pc lv (.ref a :: rest) (m, S) r w' := rgJ h1 h2 h3 hk k
theorem ppI {x : Int32} (h1 : cd mid pc = some (.putfield i, 3)) (h2 : fl (mO mid) i = some (c, k0)) (h3 : fty c k0 = 0) (hf : fin c k0 = false) (hk : Kd (m, S) a c) (k : RN xs L al C mid (pc + 3) lv rest (vI m a k0 x, S) r w') : RN xs L al C mid pc lv (.int x :: .ref a :: rest) (m, S) r w' := rpI h1 h2 h3 (Or.inl hf) hk k
theorem ppZ {x : Int32} (h1 : cd mid pc = some (.putfield i, 3)) (h2 : fl (mO mid) i = some (c, k0)) (h3 : fty c k0 = 3) (hf : fin c k0 = false) (hk : Kd (m, S) a c) (hx : x = 0 ∨ x = 1) (k : RN xs L al C mid (pc + 3) lv rest (vI m a k0 x, S) r w') : RN xs L al C mid pc lv (.int x :: .ref a :: rest) (m, S) r w' := rpZ h1 h2 h3 (Or.inl hf) hk hx k
theorem ppJ {x : Int64} (h1 : cd mid pc = some (.putfield i, 3)) (h2 : fl (mO mid) i = some (c, k0)) (h3 : fty c k0 = 1) (hf : fin c k0 = false) (hk : Kd (m, S) a c) (k : RN xs L al C mid (pc + 3) lv rest (vJ m a k0 x, S) r w') : RN xs L al C mid pc lv (.long x :: .ref a :: rest) (m, S) r w' := rpJ h1 h2 h3 (Or.inl hf) hk k
theorem pxI (h1 : cd mid pc = some (.iaload, 1)) (hk : Kd (m, S) a 12) {n : Nat} (hn : wL (m, S) a = n) (hj : ix j n) (k : RN xs L al C mid (pc + 1) lv (.int (mX m a j.toNatClampNeg) :: rest) (m, S) r w') : RN xs L al C mid pc lv (.int j :: .ref a :: rest) (m, S) r w' := rxI h1 hk hn hj k
theorem pxJ (h1 : cd mid pc = some (.laload, 1)) (hk : Kd (m, S) a 13) {n : Nat} (hn : wL (m, S) a = n) (hj : ix j n) (k : RN xs L al C mid (pc + 1) lv (.long (mYy m a j.toNatClampNeg) :: rest) (m, S) r w') : RN xs L al C mid pc lv (.int j :: .ref a :: rest) (m, S) r w' := rxJ h1 hk hn hj k
theorem pxB (h1 : cd mid pc = some (.baload, 1)) (hk : Kd (m, S) a 11 ∨ Kd (m, S) a 14) {n : Nat} (hn : wL (m, S) a = n) (hj : ix j n) (k : RN xs L al C mid (pc + 1) lv (.int (mX m a j.toNatClampNeg) :: rest) (m, S) r w') : RN xs L al C mid pc lv (.int j :: .ref a :: rest) (m, S) r w' := rxB h1 hk hn hj k
theorem psI {x : Int32} (h1 : cd mid pc = some (.iastore, 1)) (hk : Kd (m, S) a 12) {n : Nat} (hn : wL (m, S) a = n) (hj : ix j n) (k : RN xs L al C mid (pc + 1) lv rest (vX m a j.toNatClampNeg x, S) r w') : RN xs L al C mid pc lv (.int x :: .int j :: .ref a :: rest) (m, S) r w' := rsI h1 hk hn hj k
theorem psJ {x : Int64} (h1 : cd mid pc = some (.lastore, 1)) (hk : Kd (m, S) a 13) {n : Nat} (hn : wL (m, S) a = n) (hj : ix j n) (k : RN xs L al C mid (pc + 1) lv rest (vY m a j.toNatClampNeg x, S) r w') : RN xs L al C mid pc lv (.long x :: .int j :: .ref a :: rest) (m, S) r w' := rsJ h1 hk hn hj k
theorem psB {x : Int32} (h1 : cd mid pc = some (.bastore, 1)) (hk : Kd (m, S) a 11) {n : Nat} (hn : wL (m, S) a = n) (hj : ix j n) (k : RN xs L al C mid (pc + 1) lv rest (vX m a j.toNatClampNeg x.toInt8.toInt32, S) r w') : RN xs L al C mid pc lv (.int x :: .int j :: .ref a :: rest) (m, S) r w' := rsB h1 hk hn hj k
theorem psZ {x : Int32} (h1 : cd mid pc = some (.bastore, 1)) (hk : Kd (m, S) a 14) {n : Nat} (hn : wL (m, S) a = n) (hj : ix j n) (k : RN xs L al C mid (pc + 1) lv rest (vX m a j.toNatClampNeg (vp_nar .boolean x), S) r w') : RN xs L al C mid pc lv (.int x :: .int j :: .ref a :: rest) (m, S) r w' := rsZ h1 hk hn hj k
end PROWS
