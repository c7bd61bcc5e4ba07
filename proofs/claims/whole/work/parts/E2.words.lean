/-! THE TEXT: what both ask of a token. -/
def wHeir : Int64 := 1751476594
def wLate : Int64 := 1818326117
def wDay : Int64 := 6578553
def wThing : Int64 := 499967946343
def wComes : Int64 := 427071202675
def wNone : Int64 := 1852796517
def wHold : Int64 := 1752132708
def wBack : Int64 := 1650549611
theorem pak0 (n : Nat) : f_Mo_packed (n + 10) 0 = some wHeir := rfl
theorem pak1 (n : Nat) : f_Mo_packed (n + 10) 1 = some wLate := rfl
theorem pak2 (n : Nat) : f_Mo_packed (n + 10) 2 = some wDay := rfl
theorem pak3 (n : Nat) : f_Mo_packed (n + 10) 3 = some wThing := rfl
theorem pak4 (n : Nat) : f_Mo_packed (n + 10) 4 = some wComes := rfl
theorem pak5 (n : Nat) : f_Mo_packed (n + 10) 5 = some wNone := rfl
theorem pak6 (n : Nat) : f_Mo_packed (n + 10) 6 = some wHold := rfl
theorem pak7 (n : Nat) : f_Mo_packed (n + 10) 7 = some wBack := rfl
def isW (m : Mm) (w : Int64) : Bool := decide (mI m 2 3 = 1) && decide (mJ m 2 6 = w)
section WORDS
variable {N : Nat} {S : St} {m mr : Mm}
theorem wrd_of (h : Tkn m mr) {i : Nat} {w : Int64} (hp : f_Mo_packed N i = some w) : f_Mo_isWord N i mr = some (tf (isW m w)) := by
  unfold f_Mo_isWord isW
  have no : mI m 2 3 ≠ 1 → mI mr 0 3 ≠ 1 → (if mI mr 0 3 = 1 then b1 (f_Mo_packed N i) fun r2 => (if mJ mr 0 5 = r2 then some 1 else some 0) else some 0) = some (tf (decide (mI m 2 3 = 1) && decide (mJ m 2 6 = w))) := fun h1 h2 => by
    rw [if_neg h2, decide_eq_false h1]
    rfl
  rcases h with ⟨a, b⟩ | ⟨a, b, e⟩ | ⟨v, a, b, _⟩ | ⟨a, b, _⟩ | ⟨a, b, _⟩ | ⟨a, b⟩
  · exact no (by rw [a]; decide) (by rw [b]; decide)
  · rw [if_pos b, hp, b1_s, ← e, decide_eq_true a]
    by_cases q : mJ m 2 6 = w
    · rw [if_pos q, decide_eq_true q]; rfl
    · rw [if_neg q, decide_eq_false q]; rfl
  · exact no (by rw [a]; decide) (by rw [b]; decide)
  · exact no (by rw [a]; decide) (by rw [b]; decide)
  · exact no (by rw [a]; decide) (by rw [b]; decide)
  · exact no (by rw [a]; decide) (by rw [b]; decide)
theorem sign_of (h : Tkn m mr) : f_Mo_isSign N 59 mr = some (tf (decide (mI m 2 3 = 4))) ∧ f_Mo_isSign N 44 mr = some (tf (decide (mI m 2 3 = 3))) := by
  unfold f_Mo_isSign
  rcases h with ⟨a, b⟩ | ⟨a, b, e⟩ | ⟨v, a, b, _⟩ | ⟨a, b, e⟩ | ⟨a, b, e⟩ | ⟨a, b⟩
  · rw [a, b]; exact ⟨rfl, rfl⟩
  · rw [a, b]; exact ⟨rfl, rfl⟩
  · rw [a, b]; exact ⟨rfl, rfl⟩
  · rw [a, b, e]; exact ⟨rfl, rfl⟩
  · rw [a, b, e]; exact ⟨rfl, rfl⟩
  · rw [a, b]; exact ⟨rfl, rfl⟩
theorem over_of (h : Tkn m mr) : mI mr 0 3 = 0 ↔ mI m 2 3 = 0 := by
  rcases h with ⟨a, b⟩ | ⟨a, b, e⟩ | ⟨v, a, b, _⟩ | ⟨a, b, e⟩ | ⟨a, b, e⟩ | ⟨a, b⟩ <;> rw [a, b] <;> decide
theorem num_of (h : Tkn m mr) {l u : Nat} (hu : u ≤ 20) (hl : l ≤ 20) : (f_Reader_isNumber N S (nI l) (nI u) m = some 0 ∧ f_Mo_isNumber N (nI l) (nI u) mr = some 0) ∨ ∃ v, l ≤ v ∧ v ≤ u ∧ f_Reader_isNumber N S (nI l) (nI u) m = some 1 ∧ f_Mo_isNumber N (nI l) (nI u) mr = some 1 ∧ mI m 2 5 = nI v ∧ mJ mr 0 5 = lN v := by
  unfold f_Reader_isNumber f_Mo_isNumber
  rcases h with ⟨a, b⟩ | ⟨a, b, e⟩ | ⟨v, a, b, v1, v2, v3⟩ | ⟨a, b, e⟩ | ⟨a, b, e⟩ | ⟨a, b⟩
  · rw [a, b]; exact Or.inl ⟨rfl, rfl⟩
  · rw [a, b]; exact Or.inl ⟨rfl, rfl⟩
  · rw [if_pos a, if_pos b, v2, v3, nI_l (by omega), nI_l (by omega)]
    by_cases q : v ≤ 20
    · rw [if_neg (show ¬ 1000 < v by omega)]
      by_cases q1 : v < l
      · rw [if_pos (nI_lt q1 (by omega)), if_pos ((lN_lt (by omega) (by omega)).mpr q1)]
        exact Or.inl ⟨rfl, rfl⟩
      · rw [if_neg (nI_nlt (by omega) (by omega)), if_neg (fun w => q1 ((lN_lt (by omega) (by omega)).mp w))]
        by_cases q2 : u < v
        · rw [if_pos (nI_lt q2 (by omega)), if_pos ((lN_lt (by omega) (by omega)).mpr q2)]
          exact Or.inl ⟨rfl, rfl⟩
        · rw [if_neg (nI_nlt (by omega) (by omega)), if_neg (fun w => q2 ((lN_lt (by omega) (by omega)).mp w))]
          exact Or.inr ⟨v, by omega, by omega, rfl, rfl, rfl, rfl⟩
    · left
      have hx : ∀ x, 20 < x → x ≤ 9999 → (if nI x < nI l then some (0 : Int32) else if nI u < nI x then some 0 else some 1) = some 0 := fun x h1 h2 => by
        rw [if_neg (nI_nlt (by omega) (by omega)), if_pos (nI_lt (by omega) (by omega))]
      refine ⟨hx _ (by split <;> omega) (by split <;> omega), ?_⟩
      rw [if_neg (fun w => by have := (lN_lt (by omega) (by omega)).mp w; omega), if_pos ((lN_lt (by omega) (by omega)).mpr (by omega))]
  · rw [a, b]; exact Or.inl ⟨rfl, rfl⟩
  · rw [a, b]; exact Or.inl ⟨rfl, rfl⟩
  · rw [a, b]; exact Or.inl ⟨rfl, rfl⟩
theorem name_of (hN : 1000 ≤ N) (h : Tkn m mr) : ∃ b : Bool, f_Reader_isName N S m = some (tf b) ∧ f_Mo_isName N mr = some (tf b) ∧ (b = true → mJ m 2 6 = mJ mr 0 5) := by
  obtain ⟨n, rfl⟩ : ∃ n, N = n + 10 := ⟨N - 10, by omega⟩
  have w0 := wrd_of h (pak0 n)
  have w1 := wrd_of h (pak1 n)
  have w2 := wrd_of h (pak2 n)
  have w3 := wrd_of h (pak3 n)
  have w4 := wrd_of h (pak4 n)
  have w5 := wrd_of h (pak5 n)
  have w6 := wrd_of h (pak6 n)
  have w7 := wrd_of h (pak7 n)
  unfold f_Reader_isName f_Mo_isName
  rw [w0, w1, w2, w3, w4, w5, w6, w7]
  simp only [b1_s]
  by_cases q : mI m 2 3 = 1
  · have hm : mI mr 0 3 = 1 ∧ mJ m 2 6 = mJ mr 0 5 := by
      rcases h with ⟨a, _⟩ | ⟨a, b, e⟩ | ⟨v, a, _⟩ | ⟨a, _⟩ | ⟨a, _⟩ | ⟨a, _⟩
      · rw [a] at q; exact absurd q (by decide)
      · exact ⟨b, e⟩
      · rw [a] at q; exact absurd q (by decide)
      · rw [a] at q; exact absurd q (by decide)
      · rw [a] at q; exact absurd q (by decide)
      · rw [a] at q; exact absurd q (by decide)
    rw [if_pos q, if_pos hm.1, ← hm.2]
    have ew : ∀ w, tf (isW m w) = 0 ↔ ¬ mJ m 2 6 = w := fun w => by
      unfold isW
      rw [decide_eq_true q, Bool.true_and, tf_0, decide_eq_false_iff_not]
    simp only [ew]
    by_cases z : mJ m 2 6 = 0
    · rw [if_pos z, if_pos z]; exact ⟨false, rfl, rfl, fun w => by cases w⟩
    rw [if_neg z, if_neg z]
    by_cases z : mJ m 2 6 = wHeir
    · rw [if_pos (show mJ m 2 6 = 1751476594 from z), if_neg (fun w => w z)]; exact ⟨false, rfl, rfl, fun w => by cases w⟩
    rw [if_neg (show ¬ mJ m 2 6 = 1751476594 from z), if_pos z]
    by_cases z : mJ m 2 6 = wLate
    · rw [if_pos (show mJ m 2 6 = 1818326117 from z), if_neg (fun w => w z)]; exact ⟨false, rfl, rfl, fun w => by cases w⟩
    rw [if_neg (show ¬ mJ m 2 6 = 1818326117 from z), if_pos z]
    by_cases z : mJ m 2 6 = wDay
    · rw [if_pos (show mJ m 2 6 = 6578553 from z), if_neg (fun w => w z)]; exact ⟨false, rfl, rfl, fun w => by cases w⟩
    rw [if_neg (show ¬ mJ m 2 6 = 6578553 from z), if_pos z]
    by_cases z : mJ m 2 6 = wThing
    · rw [if_pos (show mJ m 2 6 = 499967946343 from z), if_neg (fun w => w z)]; exact ⟨false, rfl, rfl, fun w => by cases w⟩
    rw [if_neg (show ¬ mJ m 2 6 = 499967946343 from z), if_pos z]
    by_cases z : mJ m 2 6 = wComes
    · rw [if_pos (show mJ m 2 6 = 427071202675 from z), if_neg (fun w => w z)]; exact ⟨false, rfl, rfl, fun w => by cases w⟩
    rw [if_neg (show ¬ mJ m 2 6 = 427071202675 from z), if_pos z]
    by_cases z : mJ m 2 6 = wNone
    · rw [if_pos (show mJ m 2 6 = 1852796517 from z), if_neg (fun w => w z)]; exact ⟨false, rfl, rfl, fun w => by cases w⟩
    rw [if_neg (show ¬ mJ m 2 6 = 1852796517 from z), if_pos z]
    by_cases z : mJ m 2 6 = wHold
    · rw [if_pos (show mJ m 2 6 = 1752132708 from z), if_neg (fun w => w z)]; exact ⟨false, rfl, rfl, fun w => by cases w⟩
    rw [if_neg (show ¬ mJ m 2 6 = 1752132708 from z), if_pos z]
    by_cases z : mJ m 2 6 = wBack
    · rw [if_pos (show mJ m 2 6 = 1650549611 from z), if_neg (fun w => w z)]; exact ⟨false, rfl, rfl, fun w => by cases w⟩
    rw [if_neg (show ¬ mJ m 2 6 = 1650549611 from z), if_pos z]
    exact ⟨true, rfl, rfl, fun _ => trivial⟩
  · have hm : ¬ mI mr 0 3 = 1 := by
      rcases h with ⟨a, b⟩ | ⟨a, b, e⟩ | ⟨v, a, b, _⟩ | ⟨a, b, _⟩ | ⟨a, b, _⟩ | ⟨a, b⟩
      · rw [b]; decide
      · exact absurd a q
      · rw [b]; decide
      · rw [b]; decide
      · rw [b]; decide
      · rw [b]; decide
    rw [if_neg q, if_neg hm]
    exact ⟨false, rfl, rfl, fun w => by cases w⟩
end WORDS
