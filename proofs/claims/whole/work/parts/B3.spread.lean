/-! KNOWN: things of groups, given in any order. -/
def gok (B : Nat → Nat → Bool) (ho a to h : Nat) : Prop := if to = 3 then h < ho else B (a % 4) to = true
def h3 (to : Nat) : Nat := if to = 3 then 1 else 0
/-- k things of the groups in t are given; of group g to nobody before f -/
def SD (B : Nat → Nat → Bool) (ho g f : Nat) : Nat → Nat → Nat → Nat → Nat → Nat → Prop
  | 0, _, h, c, h', c' => h' = h ∧ c' = c
  | k + 1, t, h, c, h', c' => ∃ a to, a < 12 ∧ to < 4 ∧ 0 < dg t a ∧ gok B ho a to h ∧ (a = g → f ≤ to) ∧ SD B ho g f k (t - 8 ^ a) (h + h3 to) (c + 8 ^ (4 * (a / 4) + to)) h' c'
section SPREAD
variable {B : Nat → Nat → Bool} {ho : Nat}
theorem gok_sw {a a' to to' h : Nat} (h1 : gok B ho a to h) (h2 : gok B ho a' to' (h + h3 to)) : gok B ho a' to' h ∧ gok B ho a to (h + h3 to') := by
  unfold gok h3 at *
  by_cases q : to = 3
  · by_cases q' : to' = 3
    · simp only [q, q', if_true] at *
      omega
    · simp only [q, q', if_true, if_false] at *
      exact ⟨h2, by omega⟩
  · by_cases q' : to' = 3
    · simp only [q, q', if_true, if_false] at *
      exact ⟨by omega, h1⟩
    · simp only [q, q', if_false] at *
      exact ⟨h2, h1⟩
theorem tt_g {t a : Nat} (ha : a < 12) : dg t a ≤ tt t := by
  have e : a = 4 * (a / 4) + a % 4 := by omega
  have h := am_th (c := t) (s := a / 4) (h := a % 4) (by omega)
  unfold am at h
  rw [← e] at h
  have : th t (a % 4) ≤ tt t := by
    unfold tt
    rcases (by omega : a % 4 = 0 ∨ a % 4 = 1 ∨ a % 4 = 2 ∨ a % 4 = 3) with w | w | w | w <;> rw [w] <;> omega
  omega
theorem tt_less {t a : Nat} (ha : a < 12) (h0 : 0 < dg t a) : tt (t - 8 ^ a) + 1 = tt t := by
  have e : a = 4 * (a / 4) + a % 4 := by omega
  have := tt_sub (c := t) (s := a / 4) (h := a % 4) (by omega) (by omega) (by unfold am; rw [← e]; exact h0)
  rw [← e] at this
  exact this
theorem SD_mono {g f f' : Nat} (hf : f ≤ f') : ∀ {k t h c h' c' : Nat}, SD B ho g f' k t h c h' c' → SD B ho g f k t h c h' c' := by
  intro k
  induction k with
  | zero => intro t h c h' c' q; exact q
  | succ k ih =>
    intro t h c h' c' q
    obtain ⟨a, to, q1, q2, q3, q4, q5, q6⟩ := q
    exact ⟨a, to, q1, q2, q3, q4, fun w => Nat.le_trans hf (q5 w), ih q6⟩
theorem SD_any {g g' f : Nat} : ∀ {k t h c h' c' : Nat}, SD B ho g f k t h c h' c' → SD B ho g' 0 k t h c h' c' := by
  intro k
  induction k with
  | zero => intro t h c h' c' q; exact q
  | succ k ih =>
    intro t h c h' c' q
    obtain ⟨a, to, q1, q2, q3, q4, q5, q6⟩ := q
    exact ⟨a, to, q1, q2, q3, q4, fun w => Nat.zero_le _, ih q6⟩
theorem SD_of {g g' f : Nat} : ∀ {k t h c h' c' : Nat}, dg t g = 0 → SD B ho g' 0 k t h c h' c' → SD B ho g f k t h c h' c' := by
  intro k
  induction k with
  | zero => intro t h c h' c' _ q; exact q
  | succ k ih =>
    intro t h c h' c' h0 q
    obtain ⟨a, to, q1, q2, q3, q4, q5, q6⟩ := q
    exact ⟨a, to, q1, q2, q3, q4, fun w => by rw [w] at q3; omega, ih (by rw [dg_sub q3]; omega) q6⟩
/-- the first of a group, to the first of its holders -/
theorem SD_first {g : Nat} (hg : g < 12) : ∀ {k f t h c h' c' : Nat}, tt t = k + 1 → 0 < dg t g → SD B ho g f (k + 1) t h c h' c' → ∃ to, to < 4 ∧ f ≤ to ∧ gok B ho g to h ∧ SD B ho g to k (t - 8 ^ g) (h + h3 to) (c + 8 ^ (4 * (g / 4) + to)) h' c' := by
  intro k
  induction k with
  | zero =>
    intro f t h c h' c' ht h0 q
    obtain ⟨a, to, q1, q2, q3, q4, q5, q6⟩ := q
    by_cases e : a = g
    · subst e
      exact ⟨to, q2, q5 rfl, q4, q6⟩
    · have h1 := tt_less q1 q3
      have h2 := tt_g (t := t - 8 ^ a) hg
      rw [dg_sub q3, if_neg (fun w => e w.symm)] at h2
      omega
  | succ k ih =>
    intro f t h c h' c' ht h0 q
    obtain ⟨a, to, q1, q2, q3, q4, q5, q6⟩ := q
    have h1 := tt_less q1 q3
    by_cases e : a = g
    · subst e
      by_cases z : dg (t - 8 ^ a) a = 0
      · exact ⟨to, q2, q5 rfl, q4, SD_of z (SD_any (g' := a) q6)⟩
      · obtain ⟨to2, r1, r2, r3, r4⟩ := ih (by omega) (by omega) q6
        by_cases w : to2 < to
        · obtain ⟨s1, s2⟩ := gok_sw q4 r3
          refine ⟨to2, r1, r2, s1, a, to, q1, q2, by omega, s2, fun _ => by omega, ?_⟩
          rw [Nat.add_right_comm h, Nat.add_right_comm c]
          exact r4
        · exact ⟨to, q2, q5 rfl, q4, a, to2, q1, r1, by omega, r3, fun _ => by omega, SD_mono (by omega) r4⟩
    · have z : dg (t - 8 ^ a) g = dg t g := by rw [dg_sub q3, if_neg (fun w => e w.symm)]; rfl
      obtain ⟨to2, r1, r2, r3, r4⟩ := ih (by omega) (by omega) q6
      obtain ⟨s1, s2⟩ := gok_sw q4 r3
      refine ⟨to2, r1, r2, s1, a, to, q1, q2, ?_, s2, fun w => absurd w e, ?_⟩
      · rw [dg_sub h0, if_neg e]; exact q3
      · rw [Nat.add_right_comm h, Nat.add_right_comm c, Nat.sub_right_comm]
        exact r4
/-- what was given first may be given last -/
theorem SD_push {g f a to : Nat} : ∀ {k t h c h' c' x : Nat}, gok B ho a to h → SD B ho g f k t (h + h3 to) (c + x) h' c' → ∃ h1 c1, SD B ho g f k t h c h1 c1 ∧ gok B ho a to h1 ∧ h' = h1 + h3 to ∧ c' = c1 + x := by
  intro k
  induction k with
  | zero =>
    intro t h c h' c' x hk q
    exact ⟨h, c, ⟨rfl, rfl⟩, hk, q.1, q.2⟩
  | succ k ih =>
    intro t h c h' c' x hk q
    obtain ⟨a1, to1, q1, q2, q3, q4, q5, q6⟩ := q
    obtain ⟨s1, s2⟩ := gok_sw hk q4
    rw [Nat.add_right_comm h, Nat.add_right_comm c] at q6
    obtain ⟨h1, c1, r1, r2, r3, r4⟩ := ih s2 q6
    exact ⟨h1, c1, ⟨a1, to1, q1, q2, q3, s1, q5, r1⟩, r2, r3, r4⟩
theorem SD_last {g a : Nat} (ha : a < 12) : ∀ {k t h c h' c' : Nat}, tt t = k + 1 → 0 < dg t a → SD B ho g 0 (k + 1) t h c h' c' → ∃ to h1 c1, to < 4 ∧ SD B ho g 0 k (t - 8 ^ a) h c h1 c1 ∧ gok B ho a to h1 ∧ h' = h1 + h3 to ∧ c' = c1 + 8 ^ (4 * (a / 4) + to) := by
  intro k
  induction k with
  | zero =>
    intro t h c h' c' ht h0 q
    obtain ⟨a1, to, q1, q2, q3, q4, q5, q6⟩ := q
    by_cases e : a1 = a
    · subst e
      exact ⟨to, h, c, q2, ⟨rfl, rfl⟩, q4, q6.1, q6.2⟩
    · have h1 := tt_less q1 q3
      have h2 := tt_g (t := t - 8 ^ a1) ha
      rw [dg_sub q3, if_neg (fun w => e w.symm)] at h2
      omega
  | succ k ih =>
    intro t h c h' c' ht h0 q
    obtain ⟨a1, to, q1, q2, q3, q4, q5, q6⟩ := q
    have h1 := tt_less q1 q3
    by_cases e : a1 = a
    · subst e
      obtain ⟨h2, c2, r1, r2, r3, r4⟩ := SD_push q4 q6
      exact ⟨to, h2, c2, q2, r1, r2, r3, r4⟩
    · have z : dg (t - 8 ^ a1) a = dg t a := by rw [dg_sub q3, if_neg (fun w => e w.symm)]; rfl
      obtain ⟨to2, h2, c2, r1, r2, r3, r4, r5⟩ := ih (by omega) (by omega) q6
      refine ⟨to2, h2, c2, r1, ⟨a1, to, q1, q2, ?_, q4, q5, ?_⟩, r3, r4, r5⟩
      · rw [dg_sub h0, if_neg e]; exact q3
      · rw [Nat.sub_right_comm]
        exact r2
theorem SD_app {g a to : Nat} (ha : a < 12) (hto : to < 4) : ∀ {k t h c h1 c1 : Nat}, dg t a < 7 → SD B ho g 0 k t h c h1 c1 → gok B ho a to h1 → SD B ho g 0 (k + 1) (t + 8 ^ a) h c (h1 + h3 to) (c1 + 8 ^ (4 * (a / 4) + to)) := by
  intro k
  induction k with
  | zero =>
    intro t h c h1 c1 h7 q hk
    obtain ⟨rfl, rfl⟩ := q
    exact ⟨a, to, ha, hto, by rw [dg_add h7, if_pos rfl]; omega, hk, fun _ => Nat.zero_le _, rfl, rfl⟩
  | succ k ih =>
    intro t h c h1 c1 h7 q hk
    obtain ⟨a1, to1, q1, q2, q3, q4, q5, q6⟩ := q
    refine ⟨a1, to1, q1, q2, by rw [dg_add h7]; omega, q4, q5, ?_⟩
    have e : t + 8 ^ a - 8 ^ a1 = t - 8 ^ a1 + 8 ^ a := Nat.sub_add_comm (dg_le q3)
    rw [e]
    exact ih (by rw [dg_sub q3]; omega) q6 hk
end SPREAD
