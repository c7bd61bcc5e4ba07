/-! THE CLASS: its shape (keys in the order of making). -/
def kTC : List (Nat × Nat) := [(0, 9), (1, 11), (2, 3), (3, 8), (4, 13), (5, 12), (6, 12), (7, 12), (8, 12), (9, 12), (10, 8), (11, 13), (12, 12), (13, 12), (14, 12), (15, 12), (16, 12), (17, 0), (18, 2), (19, 12), (20, 12), (21, 12), (22, 12), (23, 12), (24, 12), (25, 12), (26, 12), (27, 12), (28, 12), (29, 12), (30, 4), (31, 12), (32, 15), (33, 1), (34, 6), (35, 13), (36, 1), (37, 6), (38, 13), (39, 1), (40, 6), (41, 13), (42, 1), (43, 6), (44, 13), (45, 1), (46, 6), (47, 13), (48, 1), (49, 6), (50, 13), (51, 1), (52, 6), (53, 13), (54, 1), (55, 6), (56, 13), (57, 1), (58, 6), (59, 13), (60, 16), (61, 5), (62, 6), (63, 13), (64, 5), (65, 6), (66, 13), (67, 5), (68, 6), (69, 13), (70, 5), (71, 6), (72, 13), (73, 5), (74, 6), (75, 13), (76, 5), (77, 6), (78, 13), (79, 5), (80, 6), (81, 13), (82, 5), (83, 6), (84, 13), (85, 5), (86, 6), (87, 13), (88, 5), (89, 6), (90, 13), (91, 5), (92, 6), (93, 13), (94, 5), (95, 6), (96, 13), (97, 7), (98, 14), (99, 13), (100, 12)]
def lTC : List (Nat × Nat) := [(1, 400), (4, 3), (5, 9), (6, 6), (7, 18), (8, 18), (9, 18), (11, 3), (12, 9), (13, 6), (14, 18), (15, 18), (16, 18), (19, 4096), (20, 210), (21, 7), (22, 1470), (23, 1470), (24, 7), (25, 7), (26, 8), (27, 8), (28, 8), (29, 7), (32, 9), (60, 12), (98, 4), (99, 4), (100, 4)]
def rTC : List (Nat × Nat × Nat) := [(3, 7, 4), (3, 8, 5), (3, 9, 6), (3, 10, 7), (3, 11, 8), (3, 12, 9), (10, 7, 11), (10, 8, 12), (10, 9, 13), (10, 10, 14), (10, 11, 15), (10, 12, 16), (18, 0, 19), (18, 1, 20), (18, 2, 21), (18, 3, 22), (18, 4, 23), (18, 5, 24), (18, 6, 25), (18, 7, 26), (18, 8, 27), (18, 9, 28), (33, 0, 34), (33, 1, 10), (33, 2, 18), (36, 0, 37), (36, 1, 10), (36, 2, 18), (39, 0, 40), (39, 1, 10), (39, 2, 18), (42, 0, 43), (42, 1, 10), (42, 2, 18), (45, 0, 46), (45, 1, 10), (45, 2, 18), (48, 0, 49), (48, 1, 10), (48, 2, 18), (51, 0, 52), (51, 1, 10), (51, 2, 18), (54, 0, 55), (54, 1, 10), (54, 2, 18), (57, 0, 58), (57, 1, 10), (57, 2, 18), (61, 0, 62), (61, 1, 10), (61, 2, 18), (64, 0, 65), (64, 1, 10), (64, 2, 18), (67, 0, 68), (67, 1, 10), (67, 2, 18), (70, 0, 71), (70, 1, 10), (70, 2, 18), (73, 0, 74), (73, 1, 10), (73, 2, 18), (76, 0, 77), (76, 1, 10), (76, 2, 18), (79, 0, 80), (79, 1, 10), (79, 2, 18), (82, 0, 83), (82, 1, 10), (82, 2, 18), (85, 0, 86), (85, 1, 10), (85, 2, 18), (88, 0, 89), (88, 1, 10), (88, 2, 18), (91, 0, 92), (91, 1, 10), (91, 2, 18), (94, 0, 95), (94, 1, 10), (94, 2, 18), (0, 0, 1), (0, 2, 2), (0, 3, 3), (0, 4, 10), (0, 5, 17), (0, 9, 98), (0, 10, 99), (0, 11, 100), (2, 0, 1), (17, 0, 30), (17, 1, 10), (17, 2, 18), (17, 3, 97), (17, 4, 32), (17, 5, 60), (30, 0, 10), (30, 1, 18), (97, 0, 10), (97, 1, 61)]
def wKl : List Nat := [3, 10]
def eKl : List Nat := [33, 36, 39, 42, 45, 48, 51, 54, 57]
def sKl : List Nat := [61, 64, 67, 70, 73, 76, 79, 82, 85, 88, 91, 94]
def tKl : List Nat := [34, 37, 40, 43, 46, 49, 52, 55, 58, 62, 65, 68, 71, 74, 77, 80, 83, 86, 89, 92, 95]
/-- what never changes of the class's objects, and what may be where references change: Tables' rows, Rows' row, the Ends of Sights and Ways -/
def ShC (S : St) : Prop := Sh kTC lTC rTC S ∧ (∀ t ∈ tKl, ∀ f, S.1 t 0 = some f → f < S.2.2.2.2.1 ∧ S.2.1 f = 13) ∧ (∀ s ∈ sKl, ∀ e, S.1 s 4 = some e → e ∈ eKl) ∧ (∀ e, S.1 97 4 = some e → e ∈ eKl) ∧ (∀ f, S.1 30 2 = some f → f < S.2.2.2.2.1 ∧ S.2.1 f = 12) ∧ (∀ e ∈ eKl, ∀ t, S.1 e 4 = some t → t ∈ eKl) ∧ (∀ j, j < 9 → S.2.2.2.1 32 j = some (33 + 3 * j)) ∧ (∀ j, j < 12 → S.2.2.2.1 60 j = some (61 + 3 * j))
def bn {β : Type} (o : Option Nat) (a : Option β) (k : Nat → Option β) : Option β := match o with
  | none => a
  | some t => k t
theorem ShC.kW {S : St} (h : ShC S) {a : Nat} (ha : a ∈ wKl) (m : Mm) : Kd (m, S) a 8 := h.1.1 (a, 8) ((by decide : ∀ a ∈ wKl, (a, 8) ∈ kTC) a ha)
theorem ShC.kE {S : St} (h : ShC S) {a : Nat} (ha : a ∈ eKl) (m : Mm) : Kd (m, S) a 1 := h.1.1 (a, 1) ((by decide : ∀ a ∈ eKl, (a, 1) ∈ kTC) a ha)
theorem ShC.kS {S : St} (h : ShC S) {a : Nat} (ha : a ∈ sKl) (m : Mm) : Kd (m, S) a 5 := h.1.1 (a, 5) ((by decide : ∀ a ∈ sKl, (a, 5) ∈ kTC) a ha)
theorem ShC.kT {S : St} (h : ShC S) {a : Nat} (ha : a ∈ tKl) (m : Mm) : Kd (m, S) a 6 := h.1.1 (a, 6) ((by decide : ∀ a ∈ tKl, (a, 6) ∈ kTC) a ha)
theorem ShC.kWa1 {S : St} (h : ShC S) {a : Nat} (ha : a ∈ wKl) (m : Mm) : Kd (m, S) (a + 1) 13 := h.1.1 (a + 1, 13) ((by decide : ∀ a ∈ wKl, (a + 1, 13) ∈ kTC) a ha)
theorem ShC.lWa1 {S : St} (h : ShC S) {a : Nat} (ha : a ∈ wKl) (m : Mm) : wL (m, S) (a + 1) = 3 := h.1.2.1 (a + 1, 3) ((by decide : ∀ a ∈ wKl, (a + 1, 3) ∈ lTC) a ha)
theorem ShC.rWa1 {S : St} (h : ShC S) {a : Nat} (ha : a ∈ wKl) (m : Mm) : wR (m, S) a 7 = some (a + 1) := h.1.2.2 (a, 7, a + 1) ((by decide : ∀ a ∈ wKl, (a, 7, a + 1) ∈ rTC) a ha)
theorem ShC.kWa2 {S : St} (h : ShC S) {a : Nat} (ha : a ∈ wKl) (m : Mm) : Kd (m, S) (a + 2) 12 := h.1.1 (a + 2, 12) ((by decide : ∀ a ∈ wKl, (a + 2, 12) ∈ kTC) a ha)
theorem ShC.lWa2 {S : St} (h : ShC S) {a : Nat} (ha : a ∈ wKl) (m : Mm) : wL (m, S) (a + 2) = 9 := h.1.2.1 (a + 2, 9) ((by decide : ∀ a ∈ wKl, (a + 2, 9) ∈ lTC) a ha)
theorem ShC.rWa2 {S : St} (h : ShC S) {a : Nat} (ha : a ∈ wKl) (m : Mm) : wR (m, S) a 8 = some (a + 2) := h.1.2.2 (a, 8, a + 2) ((by decide : ∀ a ∈ wKl, (a, 8, a + 2) ∈ rTC) a ha)
theorem ShC.kWa3 {S : St} (h : ShC S) {a : Nat} (ha : a ∈ wKl) (m : Mm) : Kd (m, S) (a + 3) 12 := h.1.1 (a + 3, 12) ((by decide : ∀ a ∈ wKl, (a + 3, 12) ∈ kTC) a ha)
theorem ShC.lWa3 {S : St} (h : ShC S) {a : Nat} (ha : a ∈ wKl) (m : Mm) : wL (m, S) (a + 3) = 6 := h.1.2.1 (a + 3, 6) ((by decide : ∀ a ∈ wKl, (a + 3, 6) ∈ lTC) a ha)
theorem ShC.rWa3 {S : St} (h : ShC S) {a : Nat} (ha : a ∈ wKl) (m : Mm) : wR (m, S) a 9 = some (a + 3) := h.1.2.2 (a, 9, a + 3) ((by decide : ∀ a ∈ wKl, (a, 9, a + 3) ∈ rTC) a ha)
theorem ShC.kWa4 {S : St} (h : ShC S) {a : Nat} (ha : a ∈ wKl) (m : Mm) : Kd (m, S) (a + 4) 12 := h.1.1 (a + 4, 12) ((by decide : ∀ a ∈ wKl, (a + 4, 12) ∈ kTC) a ha)
theorem ShC.lWa4 {S : St} (h : ShC S) {a : Nat} (ha : a ∈ wKl) (m : Mm) : wL (m, S) (a + 4) = 18 := h.1.2.1 (a + 4, 18) ((by decide : ∀ a ∈ wKl, (a + 4, 18) ∈ lTC) a ha)
theorem ShC.rWa4 {S : St} (h : ShC S) {a : Nat} (ha : a ∈ wKl) (m : Mm) : wR (m, S) a 10 = some (a + 4) := h.1.2.2 (a, 10, a + 4) ((by decide : ∀ a ∈ wKl, (a, 10, a + 4) ∈ rTC) a ha)
theorem ShC.kWa5 {S : St} (h : ShC S) {a : Nat} (ha : a ∈ wKl) (m : Mm) : Kd (m, S) (a + 5) 12 := h.1.1 (a + 5, 12) ((by decide : ∀ a ∈ wKl, (a + 5, 12) ∈ kTC) a ha)
theorem ShC.lWa5 {S : St} (h : ShC S) {a : Nat} (ha : a ∈ wKl) (m : Mm) : wL (m, S) (a + 5) = 18 := h.1.2.1 (a + 5, 18) ((by decide : ∀ a ∈ wKl, (a + 5, 18) ∈ lTC) a ha)
theorem ShC.rWa5 {S : St} (h : ShC S) {a : Nat} (ha : a ∈ wKl) (m : Mm) : wR (m, S) a 11 = some (a + 5) := h.1.2.2 (a, 11, a + 5) ((by decide : ∀ a ∈ wKl, (a, 11, a + 5) ∈ rTC) a ha)
theorem ShC.kWa6 {S : St} (h : ShC S) {a : Nat} (ha : a ∈ wKl) (m : Mm) : Kd (m, S) (a + 6) 12 := h.1.1 (a + 6, 12) ((by decide : ∀ a ∈ wKl, (a + 6, 12) ∈ kTC) a ha)
theorem ShC.lWa6 {S : St} (h : ShC S) {a : Nat} (ha : a ∈ wKl) (m : Mm) : wL (m, S) (a + 6) = 18 := h.1.2.1 (a + 6, 18) ((by decide : ∀ a ∈ wKl, (a + 6, 18) ∈ lTC) a ha)
theorem ShC.rWa6 {S : St} (h : ShC S) {a : Nat} (ha : a ∈ wKl) (m : Mm) : wR (m, S) a 12 = some (a + 6) := h.1.2.2 (a, 12, a + 6) ((by decide : ∀ a ∈ wKl, (a, 12, a + 6) ∈ rTC) a ha)
theorem ShC.rE0 {S : St} (h : ShC S) {a : Nat} (ha : a ∈ eKl) (m : Mm) : wR (m, S) a 0 = some (a + 1) := h.1.2.2 (a, 0, a + 1) ((by decide : ∀ a ∈ eKl, (a, 0, a + 1) ∈ rTC) a ha)
theorem ShC.rE1 {S : St} (h : ShC S) {a : Nat} (ha : a ∈ eKl) (m : Mm) : wR (m, S) a 1 = some (10) := h.1.2.2 (a, 1, 10) ((by decide : ∀ a ∈ eKl, (a, 1, 10) ∈ rTC) a ha)
theorem ShC.rE2 {S : St} (h : ShC S) {a : Nat} (ha : a ∈ eKl) (m : Mm) : wR (m, S) a 2 = some (18) := h.1.2.2 (a, 2, 18) ((by decide : ∀ a ∈ eKl, (a, 2, 18) ∈ rTC) a ha)
theorem ShC.rS0 {S : St} (h : ShC S) {a : Nat} (ha : a ∈ sKl) (m : Mm) : wR (m, S) a 0 = some (a + 1) := h.1.2.2 (a, 0, a + 1) ((by decide : ∀ a ∈ sKl, (a, 0, a + 1) ∈ rTC) a ha)
theorem ShC.rS1 {S : St} (h : ShC S) {a : Nat} (ha : a ∈ sKl) (m : Mm) : wR (m, S) a 1 = some (10) := h.1.2.2 (a, 1, 10) ((by decide : ∀ a ∈ sKl, (a, 1, 10) ∈ rTC) a ha)
theorem ShC.rS2 {S : St} (h : ShC S) {a : Nat} (ha : a ∈ sKl) (m : Mm) : wR (m, S) a 2 = some (18) := h.1.2.2 (a, 2, 18) ((by decide : ∀ a ∈ sKl, (a, 2, 18) ∈ rTC) a ha)
theorem eK_t {a : Nat} (ha : a ∈ eKl) : a + 1 ∈ tKl := (by decide : ∀ a ∈ eKl, a + 1 ∈ tKl) a ha
theorem sK_t {a : Nat} (ha : a ∈ sKl) : a + 1 ∈ tKl := (by decide : ∀ a ∈ sKl, a + 1 ∈ tKl) a ha
theorem eK_i {j : Int32} (h : ix j 9) : 33 + 3 * j.toNatClampNeg ∈ eKl := (by decide : ∀ i, i < 9 → 33 + 3 * i ∈ eKl) _ (Nat.not_le.mp fun q => h (Or.inr q))
theorem sK_i {j : Int32} (h : ix j 12) : 61 + 3 * j.toNatClampNeg ∈ sKl := (by decide : ∀ i, i < 12 → 61 + 3 * i ∈ sKl) _ (Nat.not_le.mp fun q => h (Or.inr q))
theorem ShC.kF {S : St} (h : ShC S) {t f : Nat} (ht : t ∈ tKl) (hf : S.1 t 0 = some f) (m : Mm) : Kd (m, S) f 13 := h.2.1 t ht f hf
theorem ShC.sE {S : St} (h : ShC S) {s e : Nat} (hs : s ∈ sKl) (he : S.1 s 4 = some e) : e ∈ eKl := h.2.2.1 s hs e he
theorem ShC.wE {S : St} (h : ShC S) {e : Nat} (he : S.1 97 4 = some e) : e ∈ eKl := h.2.2.2.1 e he
theorem ShC.kQ {S : St} (h : ShC S) {f : Nat} (hf : S.1 30 2 = some f) (m : Mm) : Kd (m, S) f 12 := h.2.2.2.2.1 f hf
theorem ShC.eE {S : St} (h : ShC S) {e t : Nat} (he : e ∈ eKl) (ht : S.1 e 4 = some t) : t ∈ eKl := h.2.2.2.2.2.1 e he t ht
theorem ShC.zE {S : St} (h : ShC S) {m : Mm} {j : Int32} (hj : ix j 9) : wZ (m, S) 32 j.toNatClampNeg = some (33 + 3 * j.toNatClampNeg) := h.2.2.2.2.2.2.1 _ (Nat.not_le.mp fun q => hj (Or.inr q))
theorem ShC.zS {S : St} (h : ShC S) {m : Mm} {j : Int32} (hj : ix j 12) : wZ (m, S) 60 j.toNatClampNeg = some (61 + 3 * j.toNatClampNeg) := h.2.2.2.2.2.2.2 _ (Nat.not_le.mp fun q => hj (Or.inr q))
theorem lk_d {nL : Nat} {a : Nat → Option Int32} {b : Nat → Option Int64} {dflt : Int} {ps : Array (Int × Int)} {len pc : Nat} {lv : Lc} {x : Int32} {r : List Value} (h1 : (ps.toList.zip (ps.toList.drop 1)).all (fun (a, next) => a.1 < next.1) = true) (h2 : Op.lookupswitch.offset ps.toList dflt x.toInt = dflt) (h3 : 0 ≤ (pc : Int) + dflt) : stp nL a b (.lookupswitch dflt ps) len pc lv (.int x :: r) = some (tgt pc dflt, lv, r) := by
  simp only [stp]
  rw [h2, if_pos ⟨h1, h3⟩]
