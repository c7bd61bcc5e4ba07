/-! THE HEAP holds the memory. -/
theorem cl_ty : ∀ (c : Nat) (r : vw_C), vwCl[c]? = some r → (∀ k, k < r.2.2 → parseFieldDescriptor (r.2.1 k).2.2.1 = some (tyc c k)) ∧ (∀ a, a < r.2.2 → ∀ b, b < r.2.2 → a ≠ b → (r.2.1 a).2.1 ≠ (r.2.1 b).2.1) := by
  intro c r h
  match c, h with
  | 0, h => cases h; exact ⟨tyX0_ok, nmX0⟩
  | 1, h => cases h; exact ⟨tyX1_ok, nmX1⟩
  | 2, h => cases h; exact ⟨tyX3_ok, nmX3⟩
  | 3, h => cases h; exact ⟨tyX4_ok, nmX4⟩
  | 4, h => cases h; exact ⟨tyX5_ok, nmX5⟩
  | 5, h => cases h; exact ⟨tyX6_ok, nmX6⟩
  | 6, h => cases h; exact ⟨tyX8_ok, nmX8⟩
  | 7, h => cases h; exact ⟨tyX9_ok, nmX9⟩
  | 8, h => cases h; exact ⟨tyX10_ok, nmX10⟩
  | 9, h => cases h; exact ⟨tyX11_ok, nmX11⟩
  | 10, h => cases h; exact ⟨tyX12_ok, nmX12⟩
  | c + 11, h => simp [vwCl] at h
theorem cl_lt {c : Nat} {r : vw_C} (h : vwCl[c]? = some r) : c < 11 := (List.getElem?_eq_some_iff.mp h).1
/-- what field k of key a, an object of class c, holds -/
def gV (w : Wd) (a c k : Nat) : Value := if fty c k = 1 then .long (wJ w a k) else if fty c k = 2 then rfv (wR w a k) else .int (wI w a k)
def fV (G : Gc) (w : Wd) (a c k : Nat) : Value := cv G (gV w a c k)
/-- the array at key a -/
def arW (G : Gc) (w : Wd) (a : Nat) : Cell := if wK w a = 13 then arrV (gA G 2) (wL w a) (fun j => .long (wY w a j)) else if 15 ≤ wK w a then arrV (gA G (wK w a - 11)) (wL w a) (fun j => cv G (rfv (wZ w a j))) else arrV (gA G (wK w a - 11)) (wL w a) (fun j => .int (wX w a j))
def atW (G : Gc) (w : Wd) (a : Nat) (H : Heap) : Prop := (∃ r, vwCl[wK w a]? = some r ∧ t_OB (gad G a) ((gD G).1 (wK w a)) r.2.2 ((gD G).2 (wK w a)) H (fV G w a (wK w a))) ∨ (11 ≤ wK w a ∧ wK w a < 17 ∧ H[gad G a]? = some (arW G w a))
/-- al: new cells may be made -/
def HW (al : Bool) (G : Gc) (A : Nat → Prop) (w : Wd) (H : Heap) : Prop := (∀ a, a < wN w → atW G w a H ∧ A (gad G a)) ∧ (∀ a b, gad G a = gad G b → a = b) ∧ (al = true → H.size = gad G (wN w) ∧ (∀ n, wN w ≤ n → gad G (n + 1) = gad G n + 1) ∧ ∀ q, H.size ≤ q → A q)
def arty (t : Nat) : FieldType := match t with
  | 0 => .byte
  | 1 => .int
  | 2 => .long
  | 3 => .boolean
  | 4 => .object "SharesComing$Ends"
  | _ => .object "SharesComing$Sight"
abbrev tysG (G : Gc) : List (ClassId × FieldType) := [(gA G 0, .byte), (gA G 1, .int), (gA G 2, .long), (gA G 3, .boolean), (gA G 4, .object "SharesComing$Ends"), (gA G 5, .object "SharesComing$Sight")]
def KW (G : Gc) (U : State) : Prop := va_K (gD G) vwCl (tysG G) U
theorem KW.moved {G : Gc} {u U : State} (hvm : u.vm.Alike U.vm) (h : KW G u) : KW G U := va_K.moved hvm h
theorem KW.arr {G : Gc} {U : State} (h : KW G U) {t : Nat} (ht : t < 6) : ArrOfT U (gA G t) (arty t) := by
  rcases (show t = 0 ∨ t = 1 ∨ t = 2 ∨ t = 3 ∨ t = 4 ∨ t = 5 by omega) with rfl | rfl | rfl | rfl | rfl | rfl
  · exact (h.2 0 _ rfl).1
  · exact (h.2 1 _ rfl).1
  · exact (h.2 2 _ rfl).1
  · exact (h.2 3 _ rfl).1
  · exact (h.2 4 _ rfl).1
  · exact (h.2 5 _ rfl).1
/-- the same cells, but for key a -/
theorem HW.upd {al : Bool} {G : Gc} {A : Nat → Prop} {w w' : Wd} {H H1 : Heap} {a : Nat} (h : HW al G A w H) (hN : wN w' = wN w) (z : H1.size = H.size) (oq : ∀ q, q ≠ gad G a → H1[q]? = H[q]?) (hat : atW G w' a H1) (hK : ∀ b, b < wN w → b ≠ a → wK w' b = wK w b) (hf : ∀ b, b < wN w → b ≠ a → ∀ c k, fV G w' b c k = fV G w b c k) (hr : ∀ b, b < wN w → b ≠ a → arW G w' b = arW G w b) : HW al G A w' H1 := by
  refine ⟨fun b hb => ?_, h.2.1, fun hal => ?_⟩
  · rw [hN] at hb
    by_cases hba : b = a
    · subst hba
      exact ⟨hat, (h.1 b hb).2⟩
    · refine ⟨?_, (h.1 b hb).2⟩
      have hq : H1[gad G b]? = H[gad G b]? := oq _ (fun e => hba (h.2.1 _ _ e))
      rcases (h.1 b hb).1 with ⟨r, h1, h2⟩ | ⟨h1, h2, h3⟩
      · left
        refine ⟨r, by rw [hK b hb hba]; exact h1, ?_⟩
        rw [hK b hb hba]
        exact (h2.kept hq).to (fun k _ => (hf b hb hba _ k).symm)
      · right
        rw [hK b hb hba, hr b hb hba]
        exact ⟨h1, h2, hq.trans h3⟩
  · obtain ⟨h1, h2, h3⟩ := h.2.2 hal
    rw [hN, z]
    exact ⟨h1, h2, h3⟩
theorem fV_uI {G : Gc} {w : Wd} {a b k j c : Nat} {x : Int32} (h : b ≠ a) : fV G (uI w a k x) b c j = fV G w b c j := by
  simp only [fV, gV, wJ, wR, wI, uI, u2, h, false_and, if_false]
theorem arW_uI {G : Gc} {w : Wd} {a b k : Nat} {x : Int32} : arW G (uI w a k x) b = arW G w b := rfl
theorem fV_uJ {G : Gc} {w : Wd} {a b k j c : Nat} {x : Int64} (h : b ≠ a) : fV G (uJ w a k x) b c j = fV G w b c j := by
  simp only [fV, gV, wJ, wR, wI, uJ, u2, h, false_and, if_false]
theorem arW_uJ {G : Gc} {w : Wd} {a b k : Nat} {x : Int64} : arW G (uJ w a k x) b = arW G w b := rfl
theorem fV_uR {G : Gc} {w : Wd} {a b k j c : Nat} {x : Option Nat} (h : b ≠ a) : fV G (uR w a k x) b c j = fV G w b c j := by
  simp only [fV, gV, wJ, wR, wI, uR, u2, h, false_and, if_false]
theorem arW_uR {G : Gc} {w : Wd} {a b k : Nat} {x : Option Nat} : arW G (uR w a k x) b = arW G w b := rfl
theorem fV_uX {G : Gc} {w : Wd} {a b k j c : Nat} {x : Int32} : fV G (uX w a k x) b c j = fV G w b c j := rfl
theorem fV_uY {G : Gc} {w : Wd} {a b k j c : Nat} {x : Int64} : fV G (uY w a k x) b c j = fV G w b c j := rfl
theorem fV_uZ {G : Gc} {w : Wd} {a b k j c : Nat} {x : Option Nat} : fV G (uZ w a k x) b c j = fV G w b c j := rfl
theorem arW_uX {G : Gc} {w : Wd} {a b k : Nat} {x : Int32} (h : b ≠ a) : arW G (uX w a k x) b = arW G w b := by
  simp only [arW, wK, wL, wX, wY, wZ, uX, u2, h, false_and, if_false]
  rfl
theorem arW_uY {G : Gc} {w : Wd} {a b k : Nat} {x : Int64} (h : b ≠ a) : arW G (uY w a k x) b = arW G w b := by
  simp only [arW, wK, wL, wX, wY, wZ, uY, u2, h, false_and, if_false]
  rfl
theorem arW_uZ {G : Gc} {w : Wd} {a b k : Nat} {x : Option Nat} (h : b ≠ a) : arW G (uZ w a k x) b = arW G w b := by
  simp only [arW, wK, wL, wX, wY, wZ, uZ, u2, h, false_and, if_false]
  rfl
/-- a field is put -/
def pV (w : Wd) (a c k : Nat) (v : Value) : Option Wd := match v with
  | .int x => if fty c k = 0 ∨ (fty c k = 3 ∧ (x = 0 ∨ x = 1)) then some (uI w a k x) else none
  | .long x => if fty c k = 1 then some (uJ w a k x) else none
  | .ref t => if fty c k = 2 then some (uR w a k (some t)) else none
  | .null => if fty c k = 2 then some (uR w a k none) else none
  | _ => none
/-- what it needs and does -/
theorem pV_ok {w w' : Wd} {a c k : Nat} {v : Value} (h : pV w a c k v = some w') (G : Gc) : wN w' = wN w ∧ wS w' = wS w ∧ (∀ b, wK w' b = wK w b) ∧ (∀ b, b ≠ a → ∀ c j, fV G w' b c j = fV G w b c j) ∧ (∀ b, arW G w' b = arW G w b) ∧ fV G w' a c k = cv G v ∧ (∀ j, j ≠ k → fV G w' a c j = fV G w a c j) ∧ narrow (tyc c k) (cv G v) = cv G v ∧ fits (tyc c k) (cv G v) = true := by
  cases v with
  | int x =>
    simp only [pV] at h
    split at h
    · next hc =>
      cases h
      refine ⟨rfl, rfl, fun _ => rfl, fun b hb c j => fV_uI hb, fun _ => rfl, ?_, fun j hj => ?_, ?_⟩
      · have h1 : fty c k ≠ 1 := by rcases hc with h | h <;> omega
        have h2 : fty c k ≠ 2 := by rcases hc with h | h <;> omega
        simp only [fV, gV, h1, h2, if_false, wI, uI, u2_s]
      · simp only [fV, gV, wJ, wR, wI, uI, u2, hj, and_false, if_false]
      · unfold fty at hc
        show narrow (tyc c k) (.int x) = .int x ∧ fits (tyc c k) (.int x) = true
        cases hty : tyc c k <;> rw [hty] at hc <;> simp at hc
        · exact ⟨rfl, rfl⟩
        · rcases hc with rfl | rfl <;> exact ⟨rfl, rfl⟩
    · cases h
  | long x =>
    simp only [pV] at h
    split at h
    · next hc =>
      cases h
      refine ⟨rfl, rfl, fun _ => rfl, fun b hb c j => fV_uJ hb, fun _ => rfl, ?_, fun j hj => ?_, ?_⟩
      · simp only [fV, gV, hc, if_true, wJ, uJ, u2_s]
      · simp only [fV, gV, wJ, wR, wI, uJ, u2, hj, and_false, if_false]
      · unfold fty at hc
        show narrow (tyc c k) (.long x) = .long x ∧ fits (tyc c k) (.long x) = true
        cases hty : tyc c k <;> rw [hty] at hc <;> simp at hc <;> exact ⟨rfl, rfl⟩
    · cases h
  | ref t =>
    simp only [pV] at h
    split at h
    · next hc =>
      cases h
      refine ⟨rfl, rfl, fun _ => rfl, fun b hb c j => fV_uR hb, fun _ => rfl, ?_, fun j hj => ?_, ?_⟩
      · simp only [fV, gV, hc, wR, uR, u2_s]; rfl
      · simp only [fV, gV, wJ, wR, wI, uR, u2, hj, and_false, if_false]
      · unfold fty at hc
        show narrow (tyc c k) (.ref _) = .ref _ ∧ fits (tyc c k) (.ref _) = true
        cases hty : tyc c k <;> rw [hty] at hc <;> simp at hc <;> exact ⟨rfl, rfl⟩
    · cases h
  | null =>
    simp only [pV] at h
    split at h
    · next hc =>
      cases h
      refine ⟨rfl, rfl, fun _ => rfl, fun b hb c j => fV_uR hb, fun _ => rfl, ?_, fun j hj => ?_, ?_⟩
      · simp only [fV, gV, hc, wR, uR, u2_s]; rfl
      · simp only [fV, gV, wJ, wR, wI, uR, u2, hj, and_false, if_false]
      · unfold fty at hc
        show narrow (tyc c k) .null = .null ∧ fits (tyc c k) .null = true
        cases hty : tyc c k <;> rw [hty] at hc <;> simp at hc <;> exact ⟨rfl, rfl⟩
    · cases h
  | float _ => cases h
  | double _ => cases h
  | retAddr _ => cases h
