/-! MEMORY: the objects and arrays that the claim's own classes make, by keys (numbers in the order of making); what each holds. -/
abbrev Wd : Type := ((Nat → Nat → Int32) × (Nat → Nat → Int64) × (Nat → Nat → Int32) × (Nat → Nat → Int64)) × ((Nat → Nat → Option Nat) × (Nat → Nat) × (Nat → Nat) × (Nat → Nat → Option Nat) × Nat × Nat)
/-- int field k of key a; long field; int array's place; long array's place; reference field; kind; length; reference array's place; how many keys; how many slots -/
def wI (w : Wd) (a k : Nat) : Int32 := w.1.1 a k
def wJ (w : Wd) (a k : Nat) : Int64 := w.1.2.1 a k
def wX (w : Wd) (a k : Nat) : Int32 := w.1.2.2.1 a k
def wY (w : Wd) (a k : Nat) : Int64 := w.1.2.2.2 a k
def wR (w : Wd) (a k : Nat) : Option Nat := w.2.1 a k
def wK (w : Wd) (a : Nat) : Nat := w.2.2.1 a
def wL (w : Wd) (a : Nat) : Nat := w.2.2.2.1 a
def wZ (w : Wd) (a k : Nat) : Option Nat := w.2.2.2.2.1 a k
def wN (w : Wd) : Nat := w.2.2.2.2.2.1
def wS (w : Wd) : Nat := w.2.2.2.2.2.2
def u2 {α : Type} (f : Nat → Nat → α) (a k : Nat) (v : α) : Nat → Nat → α := fun b j => if b = a ∧ j = k then v else f b j
def u1 {α : Type} (f : Nat → α) (a : Nat) (v : α) : Nat → α := fun b => if b = a then v else f b
/-- a whole row -/
def ur {α : Type} (f : Nat → Nat → α) (a : Nat) (v : Nat → α) : Nat → Nat → α := fun b j => if b = a then v j else f b j
def uI (w : Wd) (a k : Nat) (v : Int32) : Wd := ((u2 w.1.1 a k v, w.1.2), w.2)
def uJ (w : Wd) (a k : Nat) (v : Int64) : Wd := ((w.1.1, u2 w.1.2.1 a k v, w.1.2.2), w.2)
def uX (w : Wd) (a k : Nat) (v : Int32) : Wd := ((w.1.1, w.1.2.1, u2 w.1.2.2.1 a k v, w.1.2.2.2), w.2)
def uY (w : Wd) (a k : Nat) (v : Int64) : Wd := ((w.1.1, w.1.2.1, w.1.2.2.1, u2 w.1.2.2.2 a k v), w.2)
def uR (w : Wd) (a k : Nat) (v : Option Nat) : Wd := (w.1, u2 w.2.1 a k v, w.2.2)
def uZ (w : Wd) (a k : Nat) (v : Option Nat) : Wd := (w.1, w.2.1, w.2.2.1, w.2.2.2.1, u2 w.2.2.2.2.1 a k v, w.2.2.2.2.2)
/-- a new object of class c with n fields; its key is the next -/
def nO (w : Wd) (c n : Nat) : Wd := ((ur w.1.1 (wN w) (fun _ => 0), ur w.1.2.1 (wN w) (fun _ => 0), w.1.2.2), (ur w.2.1 (wN w) (fun _ => none), u1 w.2.2.1 (wN w) c, w.2.2.2.1, w.2.2.2.2.1, wN w + 1, wS w + n))
/-- a new array of kind t and length n -/
def nA (w : Wd) (t n : Nat) : Wd := ((w.1.1, w.1.2.1, ur w.1.2.2.1 (wN w) (fun _ => 0), ur w.1.2.2.2 (wN w) (fun _ => 0)), (w.2.1, u1 w.2.2.1 (wN w) t, u1 w.2.2.2.1 (wN w) n, ur w.2.2.2.2.1 (wN w) (fun _ => none), wN w + 1, wS w + n))
theorem u2_s {α : Type} (f : Nat → Nat → α) (a k : Nat) (v : α) : u2 f a k v a k = v := by simp [u2]
theorem u2_a {α : Type} (f : Nat → Nat → α) {a b : Nat} (k j : Nat) (v : α) (h : b ≠ a) : u2 f a k v b j = f b j := by simp [u2, h]
theorem u2_k {α : Type} (f : Nat → Nat → α) (a b : Nat) {k j : Nat} (v : α) (h : j ≠ k) : u2 f a k v b j = f b j := by simp [u2, h]
/-- key a is there, and of kind c -/
def Kd (w : Wd) (a c : Nat) : Prop := a < wN w ∧ wK w a = c
/-- abstract values: .ref a is a key; .retAddr i below 100 the i-th String constant, 100 + i its bytes, 1000 the script; .float 0 a reference that nobody asks of -/
abbrev Lc : Type := List (Nat × Value)
/-- the context: addresses of the keys; of the Strings, of their bytes; of the script; classes; array classes -/
abbrev Gc : Type := (Nat → Nat) × (Nat → Nat) × (Nat → Nat) × Nat × Option Nat × va_G × (Nat → ClassId)
def gad (G : Gc) : Nat → Nat := G.1
def gsk (G : Gc) : Nat → Nat := G.2.1
def gsv (G : Gc) : Nat → Nat := G.2.2.1
def gsc (G : Gc) : Nat := G.2.2.2.1
def gfm (G : Gc) : Option Nat := G.2.2.2.2.1
def gD (G : Gc) : va_G := G.2.2.2.2.2.1
def gA (G : Gc) : Nat → ClassId := G.2.2.2.2.2.2
def cv (G : Gc) (v : Value) : Value := match v with
  | .ref a => .ref (gad G a)
  | .retAddr i => .ref (if i < 100 then gsk G i else if i < 1000 then gsv G (i - 100) else gsc G)
  | .float _ => va_rf (gfm G)
  | v => v
theorem va_rf_cat (r : Option Nat) : (va_rf r).category = 1 := by cases r <;> rfl
theorem cv_cat (G : Gc) (v : Value) : (cv G v).category = v.category := by
  cases v <;> first | rfl | exact va_rf_cat _
theorem cv_ret (G : Gc) (i : Nat) : cv G (.retAddr i) = .ref (if i < 100 then gsk G i else if i < 1000 then gsv G (i - 100) else gsc G) := rfl
def cvl (G : Gc) (l : Lc) : Lc := l.map (fun q => (q.1, cv G q.2))
def rfv (r : Option Nat) : Value := match r with
  | none => .null
  | some t => .ref t
theorem cv_rfv (G : Gc) (r : Option Nat) : cv G (rfv r) = va_rf (r.map (gad G)) := by cases r <;> rfl
theorem cvl_args (G : Gc) : ∀ (vs : List Value) (i : Nat), lv_args i (vs.map (cv G)) = cvl G (lv_args i vs)
  | [], _ => rfl
  | v :: vs, i => by
    simp only [List.map_cons, lv_args, cvl, cv_cat]
    congr 1
    exact cvl_args G vs _
theorem cvl_filter (G : Gc) (p : Nat × Value → Bool) (hp : ∀ i v v', v.category = v'.category → p (i, v) = p (i, v')) (l : Lc) : (cvl G l).filter p = cvl G (l.filter p) := by
  induction l with
  | nil => rfl
  | cons q l ih =>
    have h : p (q.1, cv G q.2) = p q := hp q.1 _ _ (cv_cat G q.2)
    simp only [cvl, List.map_cons, List.filter_cons] at ih ⊢
    rw [h]
    cases p q
    · simpa using ih
    · simpa using ih
/-- the local i, if it is listed -/
def lcg : Lc → Nat → Option Value
  | [], _ => none
  | q :: l, i => if q.1 = i then some q.2 else lcg l i
theorem lcg_mem : ∀ {l : Lc} {i : Nat} {v : Value}, lcg l i = some v → (i, v) ∈ l
  | [], _, _, h => by cases h
  | q :: l, i, v, h => by
    unfold lcg at h
    by_cases hq : q.1 = i
    · rw [if_pos hq] at h
      cases h
      rw [← hq]
      exact List.mem_cons_self
    · rw [if_neg hq] at h
      exact List.mem_cons_of_mem _ (lcg_mem h)
theorem lcg_ls {G : Gc} {l : Lc} {i nL : Nat} {v : Value} {ls : Array Slot} (h : lv_has ls nL (cvl G l)) (hg : lcg l i = some v) : ls[i]? = some (.val (cv G v)) := h.2.2 (i, cv G v) (List.mem_map.mpr ⟨(i, v), lcg_mem hg, rfl⟩)
/-- a store of one word, and of two -/
def lc1 (l : Lc) (i : Nat) (v : Value) : Lc := (i, v) :: l.filter (fun q => !(q.1 == i) && !(q.1 + 1 == i && q.2.category == 2))
def lc2 (l : Lc) (i : Nat) (v : Value) : Lc := (i, v) :: l.filter (fun q => !(q.1 == i) && (!(q.1 == i + 1) && !(q.1 + 1 == i && q.2.category == 2)))
theorem lc1_cv (G : Gc) (l : Lc) (i : Nat) (v : Value) : (i, cv G v) :: (cvl G l).filter (fun q => !(q.1 == i) && !(q.1 + 1 == i && q.2.category == 2)) = cvl G (lc1 l i v) := by
  rw [cvl_filter G _ (fun i v v' h => by simp [h])]
  rfl
theorem lc2_cv (G : Gc) (l : Lc) (i : Nat) (v : Value) : (i, cv G v) :: (cvl G l).filter (fun q => !(q.1 == i) && (!(q.1 == i + 1) && !(q.1 + 1 == i && q.2.category == 2))) = cvl G (lc2 l i v) := by
  rw [cvl_filter G _ (fun i v v' h => by simp [h])]
  rfl
