/-! MAKING: runs over lists of what was made. -/
abbrev Qs : Type := (Nat × Nat × Nat) × List (Nat × Nat) × List (Nat × Nat) × List (Nat × Nat × Option Nat) × List (Nat × Nat × Int32) × List (Nat × Nat × Option Nat)
def mkT (q : Qs) : Nat := q.1.1
def mkN (q : Qs) : Nat := q.1.2.1
def mkS (q : Qs) : Nat := q.1.2.2
def mk1 : List (Nat × Nat) → Nat → Option Nat
  | [], _ => none
  | e :: l, a => if e.1 = a then some e.2 else mk1 l a
def mk2 {α : Type} : List (Nat × Nat × α) → Nat → Nat → Option α
  | [], _, _ => none
  | e :: l, a, k => if e.1 = a ∧ e.2.1 = k then some e.2.2 else mk2 l a k
def mkK (q : Qs) (a : Nat) : Option Nat := mk1 q.2.1 a
def mkL (q : Qs) (a : Nat) : Option Nat := mk1 q.2.2.1 a
def mkR (q : Qs) (a k : Nat) : Option Nat := (mk2 q.2.2.2.1 a k).getD none
def mkI (q : Qs) (a k : Nat) : Int32 := (mk2 q.2.2.2.2.1 a k).getD 0
def mkZ (q : Qs) (a k : Nat) : Option Nat := (mk2 q.2.2.2.2.2 a k).getD none
def qPI (q : Qs) (a k : Nat) (x : Int32) : Qs := (q.1, q.2.1, q.2.2.1, q.2.2.2.1, (a, k, x) :: q.2.2.2.2.1, q.2.2.2.2.2)
def qPR (q : Qs) (a k : Nat) (o : Option Nat) : Qs := (q.1, q.2.1, q.2.2.1, (a, k, o) :: q.2.2.2.1, q.2.2.2.2)
def qPZ (q : Qs) (a k : Nat) (o : Option Nat) : Qs := (q.1, q.2.1, q.2.2.1, q.2.2.2.1, q.2.2.2.2.1, (a, k, o) :: q.2.2.2.2.2)
def qNO (q : Qs) (c n : Nat) : Qs := ((mkT q, mkN q + 1, mkS q + n), (mkN q, c) :: q.2.1, q.2.2)
def qNA (q : Qs) (c n : Nat) : Qs := ((mkT q, mkN q + 1, mkS q + n), (mkN q, c) :: q.2.1, (mkN q, n) :: q.2.2.1, q.2.2.2)
abbrev IxP : Type := Nat → (Nat → Nat → Int32) → (Nat → Nat → Int64) → Prop
/-- the memory is as the lists say -/
def Rep (I : IxP) (q : Qs) (w : Wd) : Prop := (wN w = mkN q ∧ wS w = mkS q ∧ I (mkT q) w.1.2.2.1 w.1.2.2.2) ∧ (∀ a c, mkK q a = some c → a < mkN q ∧ wK w a = c) ∧ (∀ a n, mkL q a = some n → a < mkN q ∧ wL w a = n) ∧ (∀ a c k, mkK q a = some c → c < 11 → wR w a k = mkR q a k ∧ wI w a k = mkI q a k ∧ wJ w a k = 0) ∧ (∀ a c k, mkK q a = some c → 11 ≤ c → wZ w a k = mkZ q a k) ∧ ∀ a, mkN q ≤ a → mkK q a = none ∧ mkL q a = none ∧ ∀ k, mk2 q.2.2.2.1 a k = none ∧ mk2 q.2.2.2.2.1 a k = none ∧ mk2 q.2.2.2.2.2 a k = none
/-- new rows may be made -/
def IxA (I : IxP) : Prop := ∀ t n x y, (t = 0 ∨ (t = 1 ∧ n = 29) ∨ 30 ≤ n) → I t x y → I t (ur x n (fun _ => 0)) (ur y n (fun _ => 0))
section MAKING
variable {I : IxP} {q : Qs} {w : Wd}
theorem mk1_c {e : Nat × Nat} {l : List (Nat × Nat)} {a : Nat} : mk1 (e :: l) a = if e.1 = a then some e.2 else mk1 l a := rfl
theorem mk2_c {α : Type} {e : Nat × Nat × α} {l : List (Nat × Nat × α)} {a k : Nat} : mk2 (e :: l) a k = if e.1 = a ∧ e.2.1 = k then some e.2.2 else mk2 l a k := rfl
theorem Rep_PI {a k : Nat} {x : Int32} (ha : a < mkN q) (h : Rep I q w) : Rep I (qPI q a k x) (uI w a k x) := by
  obtain ⟨h1, h2, h3, h4, h5, h6⟩ := h
  refine ⟨h1, h2, h3, fun b c j hb hc => ?_, h5, fun b hb => ?_⟩
  · obtain ⟨g1, g2, g3⟩ := h4 b c j hb hc
    refine ⟨g1, ?_, g3⟩
    show u2 w.1.1 a k x b j = (mk2 ((a, k, x) :: q.2.2.2.2.1) b j).getD 0
    rw [mk2_c]
    unfold u2
    by_cases z : b = a ∧ j = k
    · rw [if_pos z, if_pos ⟨z.1.symm, z.2.symm⟩]; rfl
    · rw [if_neg z, if_neg (fun y => z ⟨y.1.symm, y.2.symm⟩)]; exact g2
  · obtain ⟨g1, g2, g3⟩ := h6 b hb
    refine ⟨g1, g2, fun j => ⟨(g3 j).1, ?_, (g3 j).2.2⟩⟩
    show mk2 ((a, k, x) :: q.2.2.2.2.1) b j = none
    have hb' : mkN q ≤ b := hb
    rw [mk2_c, if_neg (fun y => by have := y.1; simp only at this; omega)]
    exact (g3 j).2.1
theorem Rep_PR {a k : Nat} {o : Option Nat} (ha : a < mkN q) (h : Rep I q w) : Rep I (qPR q a k o) (uR w a k o) := by
  obtain ⟨h1, h2, h3, h4, h5, h6⟩ := h
  refine ⟨h1, h2, h3, fun b c j hb hc => ?_, h5, fun b hb => ?_⟩
  · obtain ⟨g1, g2, g3⟩ := h4 b c j hb hc
    refine ⟨?_, g2, g3⟩
    show u2 w.2.1 a k o b j = (mk2 ((a, k, o) :: q.2.2.2.1) b j).getD none
    rw [mk2_c]
    unfold u2
    by_cases z : b = a ∧ j = k
    · rw [if_pos z, if_pos ⟨z.1.symm, z.2.symm⟩]; rfl
    · rw [if_neg z, if_neg (fun y => z ⟨y.1.symm, y.2.symm⟩)]; exact g1
  · obtain ⟨g1, g2, g3⟩ := h6 b hb
    refine ⟨g1, g2, fun j => ⟨?_, (g3 j).2⟩⟩
    show mk2 ((a, k, o) :: q.2.2.2.1) b j = none
    have hb' : mkN q ≤ b := hb
    rw [mk2_c, if_neg (fun y => by have := y.1; simp only at this; omega)]
    exact (g3 j).1
theorem Rep_PZ {a k : Nat} {o : Option Nat} (ha : a < mkN q) (h : Rep I q w) : Rep I (qPZ q a k o) (uZ w a k o) := by
  obtain ⟨h1, h2, h3, h4, h5, h6⟩ := h
  refine ⟨h1, h2, h3, h4, fun b c j hb hc => ?_, fun b hb => ?_⟩
  · have g1 := h5 b c j hb hc
    show u2 w.2.2.2.2.1 a k o b j = (mk2 ((a, k, o) :: q.2.2.2.2.2) b j).getD none
    rw [mk2_c]
    unfold u2
    by_cases z : b = a ∧ j = k
    · rw [if_pos z, if_pos ⟨z.1.symm, z.2.symm⟩]; rfl
    · rw [if_neg z, if_neg (fun y => z ⟨y.1.symm, y.2.symm⟩)]; exact g1
  · obtain ⟨g1, g2, g3⟩ := h6 b hb
    refine ⟨g1, g2, fun j => ⟨(g3 j).1, (g3 j).2.1, ?_⟩⟩
    show mk2 ((a, k, o) :: q.2.2.2.2.2) b j = none
    have hb' : mkN q ≤ b := hb
    rw [mk2_c, if_neg (fun y => by have := y.1; simp only at this; omega)]
    exact (g3 j).2.2
theorem Rep_NO {c n : Nat} (hc : c < 11) (h : Rep I q w) : Rep I (qNO q c n) (nO w c n) := by
  obtain ⟨⟨h1, h1', h1''⟩, h2, h3, h4, h5, h6⟩ := h
  have hK : ∀ b d, mkK (qNO q c n) b = some d → (b = mkN q ∧ d = c) ∨ (b < mkN q ∧ mkK q b = some d) := fun b d hb => by
    have hb' : mk1 ((mkN q, c) :: q.2.1) b = some d := hb
    rw [mk1_c] at hb'
    by_cases z : mkN q = b
    · rw [if_pos z] at hb'
      exact Or.inl ⟨z.symm, (Option.some.inj hb').symm⟩
    · rw [if_neg z] at hb'
      exact Or.inr ⟨(h2 b d hb').1, hb'⟩
  refine ⟨⟨show wN w + 1 = mkN q + 1 by rw [h1], show wS w + n = mkS q + n by rw [h1'], h1''⟩, fun b d hb => ?_, fun b d hb => ?_, fun b d j hb hd => ?_, fun b d j hb hd => ?_, fun b hb => ?_⟩
  · show b < mkN q + 1 ∧ u1 w.2.2.1 (wN w) c b = d
    rw [h1]
    unfold u1
    rcases hK b d hb with ⟨z1, z2⟩ | ⟨z1, z2⟩
    · rw [if_pos z1, z2]; exact ⟨by omega, rfl⟩
    · rw [if_neg (by omega)]; exact ⟨by omega, (h2 b d z2).2⟩
  · have := h3 b d hb
    exact ⟨Nat.lt_succ_of_lt this.1, this.2⟩
  · rcases hK b d hb with ⟨z1, z2⟩ | ⟨z1, z2⟩
    · have g := (h6 b (by omega)).2.2 j
      refine ⟨?_, ?_, ?_⟩
      · show ur w.2.1 (wN w) (fun _ => none) b j = (mk2 q.2.2.2.1 b j).getD none
        rw [h1, g.1]; unfold ur; rw [if_pos z1]; rfl
      · show ur w.1.1 (wN w) (fun _ => 0) b j = (mk2 q.2.2.2.2.1 b j).getD 0
        rw [h1, g.2.1]; unfold ur; rw [if_pos z1]; rfl
      · show ur w.1.2.1 (wN w) (fun _ => 0) b j = 0
        rw [h1]; unfold ur; rw [if_pos z1]
    · obtain ⟨g1, g2, g3⟩ := h4 b d j z2 hd
      refine ⟨?_, ?_, ?_⟩
      · show ur w.2.1 (wN w) (fun _ => none) b j = _
        rw [h1]; unfold ur; rw [if_neg (by omega)]; exact g1
      · show ur w.1.1 (wN w) (fun _ => 0) b j = _
        rw [h1]; unfold ur; rw [if_neg (by omega)]; exact g2
      · show ur w.1.2.1 (wN w) (fun _ => 0) b j = 0
        rw [h1]; unfold ur; rw [if_neg (by omega)]; exact g3
  · rcases hK b d hb with ⟨z1, z2⟩ | ⟨z1, z2⟩
    · omega
    · exact h5 b d j z2 hd
  · have hb' : mkN q + 1 ≤ b := hb
    obtain ⟨g1, g2, g3⟩ := h6 b (by omega)
    refine ⟨?_, g2, g3⟩
    show mk1 ((mkN q, c) :: q.2.1) b = none
    rw [mk1_c, if_neg (fun z => by simp only at z; omega)]
    exact g1
theorem Rep_NA (hA : IxA I) {c n : Nat} (hc : 11 ≤ c) (ht : mkT q = 0 ∨ (mkT q = 1 ∧ mkN q = 29) ∨ 30 ≤ mkN q) (h : Rep I q w) : Rep I (qNA q c n) (nA w c n) := by
  obtain ⟨⟨h1, h1', h1''⟩, h2, h3, h4, h5, h6⟩ := h
  have hK : ∀ b d, mkK (qNA q c n) b = some d → (b = mkN q ∧ d = c) ∨ (b < mkN q ∧ mkK q b = some d) := fun b d hb => by
    have hb' : mk1 ((mkN q, c) :: q.2.1) b = some d := hb
    rw [mk1_c] at hb'
    by_cases z : mkN q = b
    · rw [if_pos z] at hb'
      exact Or.inl ⟨z.symm, (Option.some.inj hb').symm⟩
    · rw [if_neg z] at hb'
      exact Or.inr ⟨(h2 b d hb').1, hb'⟩
  refine ⟨⟨show wN w + 1 = mkN q + 1 by rw [h1], show wS w + n = mkS q + n by rw [h1'], ?_⟩, fun b d hb => ?_, fun b d hb => ?_, fun b d j hb hd => ?_, fun b d j hb hd => ?_, fun b hb => ?_⟩
  · show I (mkT q) (ur w.1.2.2.1 (wN w) (fun _ => 0)) (ur w.1.2.2.2 (wN w) (fun _ => 0))
    rw [h1]
    exact hA _ _ _ _ ht h1''
  · show b < mkN q + 1 ∧ u1 w.2.2.1 (wN w) c b = d
    rw [h1]
    unfold u1
    rcases hK b d hb with ⟨z1, z2⟩ | ⟨z1, z2⟩
    · rw [if_pos z1, z2]; exact ⟨by omega, rfl⟩
    · rw [if_neg (by omega)]; exact ⟨by omega, (h2 b d z2).2⟩
  · show b < mkN q + 1 ∧ u1 w.2.2.2.1 (wN w) n b = d
    have hb' : mk1 ((mkN q, n) :: q.2.2.1) b = some d := hb
    rw [mk1_c] at hb'
    rw [h1]
    unfold u1
    by_cases z : mkN q = b
    · rw [if_pos z] at hb'
      rw [if_pos z.symm]
      exact ⟨by omega, Option.some.inj hb'⟩
    · rw [if_neg z] at hb'
      have := h3 b d hb'
      rw [if_neg (fun y => z y.symm)]
      exact ⟨Nat.lt_succ_of_lt this.1, this.2⟩
  · rcases hK b d hb with ⟨z1, z2⟩ | ⟨z1, z2⟩
    · omega
    · exact h4 b d j z2 hd
  · show ur w.2.2.2.2.1 (wN w) (fun _ => none) b j = (mk2 q.2.2.2.2.2 b j).getD none
    rw [h1]
    unfold ur
    rcases hK b d hb with ⟨z1, z2⟩ | ⟨z1, z2⟩
    · rw [if_pos z1, ((h6 b (by omega)).2.2 j).2.2]; rfl
    · rw [if_neg (by omega)]; exact h5 b d j z2 hd
  · have hb' : mkN q + 1 ≤ b := hb
    obtain ⟨g1, g2, g3⟩ := h6 b (by omega)
    refine ⟨?_, ?_, g3⟩
    · show mk1 ((mkN q, c) :: q.2.1) b = none
      rw [mk1_c, if_neg (fun z => by simp only at z; omega)]
      exact g1
    · show mk1 ((mkN q, n) :: q.2.2.1) b = none
      rw [mk1_c, if_neg (fun z => by simp only at z; omega)]
      exact g2
theorem Rep.kd {a c : Nat} (h : Rep I q w) (hk : mkK q a = some c) : Kd w a c := by
  have := h.2.1 a c hk
  exact ⟨by rw [h.1.1]; exact this.1, this.2⟩
end MAKING
