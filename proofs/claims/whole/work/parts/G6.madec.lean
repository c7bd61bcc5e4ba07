/-! MAKING: the class is made. -/
def xLs : List Nat := [19, 20, 21, 22, 23, 24, 29]
def IxC : IxP := fun t x y => (∀ a k, y a k = 0) ∧ (∀ a k, a ∉ xLs → x a k = 0) ∧ (t = 0 → ∀ a k, x a k = 0) ∧ (1 ≤ t → (∀ a b c h, a + b + c + h ≤ 6 → x 19 (a + 8 * b + 64 * c + 512 * h) = nI (nF a b c h)) ∧ (∀ n, n < 210 → x 20 n = nI (sO n)) ∧ ∀ K, K < 7 → x 21 K = nI (upF K)) ∧ (2 ≤ t → (∀ K b, K < 7 → b < upF K → x 22 (K * 210 + b) = nI (miF K b)) ∧ ∀ K, K < 7 → x 29 K = nI (paF K)) ∧ (3 ≤ t → (∀ B a, B < 7 → a < upF B → x 23 (B * 210 + a) = nI (fiF B a)) ∧ ∀ B, B < 7 → x 24 B = nI (szF B))
theorem IxC_A : IxA IxC := by
  intro t n x y ht h
  obtain ⟨h1, h2, h3, h4, h5, h6⟩ := h
  have ux : ∀ a k, a ≠ n → ur x n (fun _ => 0) a k = x a k := fun a k q => by unfold ur; rw [if_neg q]
  have u0 : ∀ a k, x a k = 0 → ur x n (fun _ => 0) a k = 0 := fun a k q => by unfold ur; split <;> first | rfl | exact q
  refine ⟨fun a k => by unfold ur; split <;> first | rfl | exact h1 a k, fun a k q => u0 a k (h2 a k q), fun q a k => u0 a k (h3 q a k), fun q => ?_, fun q => ?_, fun q => ?_⟩
  · obtain ⟨g1, g2, g3⟩ := h4 q
    exact ⟨fun a b c e hs => (ux 19 _ (by omega)).trans (g1 a b c e hs), fun i hi => (ux 20 _ (by omega)).trans (g2 i hi), fun K hK => (ux 21 _ (by omega)).trans (g3 K hK)⟩
  · obtain ⟨g1, g2⟩ := h5 q
    exact ⟨fun K b hK hb => (ux 22 _ (by omega)).trans (g1 K b hK hb), fun K hK => (ux 29 _ (by omega)).trans (g2 K hK)⟩
  · obtain ⟨g1, g2⟩ := h6 q
    exact ⟨fun K b hK hb => (ux 23 _ (by omega)).trans (g1 K b hK hb), fun K hK => (ux 24 _ (by omega)).trans (g2 K hK)⟩
theorem okA_t {q : Qs} {a n : Nat} (h : okA q a n = true) : mkK q a = some 12 ∧ mkL q a = some n := by
  unfold okA at h
  rw [Bool.and_eq_true, decide_eq_true_eq, decide_eq_true_eq] at h
  exact h
section MADEC
variable {xs : Nat → Int32} {L : Nat}
theorem Rep_x {q : Qs} {m m' : Mm} {S : St} {t : Nat} (h1 : m'.1 = m.1) (h2 : m'.2.1 = m.2.1) (h : Rep IxC q (m, S)) (hI : IxC t m'.2.2.1 m'.2.2.2) : Rep IxC ((t, q.1.2), q.2) (m', S) := by
  obtain ⟨⟨a1, a2, _⟩, b2', b3', b4', b5', b6'⟩ := h
  refine ⟨⟨a1, a2, hI⟩, b2', b3', fun a c k hk hc => ?_, b5', b6'⟩
  obtain ⟨g1, g2, g3⟩ := b4' a c k hk hc
  refine ⟨g1, ?_, ?_⟩
  · show m'.1 a k = _
    rw [h1]; exact g2
  · show m'.2.1 a k = 0
    rw [h2]; exact g3
theorem orc_ok (d m2 : Nat) (as : List Value) (q : Qs) (r : Option Value) (q' : Qs) (w : Wd) (hd : 6 ≤ d) (h : orcC m2 as q = some (r, q')) (hr : Rep IxC q w) : ∃ w', Ev xs L true d m2 as w r w' ∧ Rep IxC q' w' := by
  obtain ⟨m, S⟩ := w
  have kd : ∀ {a n}, okA q a n = true → (∀ m : Mm, Kd (m, S) a 12) ∧ S.2.2.1 a = n := fun {a n} ho => by
    obtain ⟨o1, o2⟩ := okA_t ho
    have g1 := hr.kd o1
    exact ⟨fun _ => g1, (hr.2.2.1 a n o2).2⟩
  have hI := hr.1.2.2
  obtain ⟨i1, i2, i3, i4, i5, i6⟩ := id hI
  unfold orcC at h
  split at h
  · split at h
    · next hc =>
      obtain ⟨hc1, hc2⟩ := hc
      rw [Bool.and_eq_true, Bool.and_eq_true] at hc2
      obtain ⟨o0, o1, o2⟩ := hc2
      obtain ⟨k0, l0⟩ := kd o0
      obtain ⟨k1, l1⟩ := kd o1
      obtain ⟨k2, l2⟩ := kd o2
      obtain ⟨rfl, rfl⟩ := Prod.mk.inj (Option.some.inj h)
      obtain ⟨m', e1, e2, e3, e4⟩ := t_numberAmounts (N := 100000) (Nat.le_refl _) l0 l1 l2 (m := m)
      refine ⟨(m', S), e_Ranks_numberAmounts 100000 (by omega) k0 k1 k2 e1, Rep_x e2.1 e2.2.1 hr ⟨fun a k => by rw [e2.2.2.1]; exact i1 a k, fun a k ha => ?_, fun z => absurd z (by decide), fun _ => ⟨fun a b c e hs => e3.1 a b c e hs (nF_sO hs).2, e3.2, e4⟩, fun z => absurd z (by decide), fun z => absurd z (by decide)⟩⟩
      rw [e2.2.2.2 a (fun z => ha (by simp at z; unfold xLs; simp; omega))]
      exact i2 a k ha
    · cases h
  · split at h
    · next hc =>
      obtain ⟨hc1, hc2⟩ := hc
      rw [Bool.and_eq_true, Bool.and_eq_true, Bool.and_eq_true] at hc2
      obtain ⟨o0, o1, o2, o3⟩ := hc2
      obtain ⟨k0, l0⟩ := kd o0
      obtain ⟨k1, l1⟩ := kd o1
      obtain ⟨k2, l2⟩ := kd o2
      obtain ⟨k3, l3⟩ := kd o3
      obtain ⟨rfl, rfl⟩ := Prod.mk.inj (Option.some.inj h)
      obtain ⟨g1, g2, g3⟩ := i4 (by omega)
      obtain ⟨m', e1, e2, e3, e4⟩ := t_sumUp (N := 100000) (Nat.le_refl _) (x1 := 21) (x2 := 22) (x3 := 29) (by omega) (by omega) (by omega) l0 l1 l2 l3 (m := m) (G := upF) g2 g3
      have fr : ∀ a k, a ≠ 22 → a ≠ 29 → m'.2.2.1 a k = m.2.2.1 a k := fun a k z1 z2 => by rw [e2.2.2.2 a (by simp; omega)]
      refine ⟨(m', S), e_Ranks_sumUp 100000 (by omega) k0 k1 k2 k3 e1, Rep_x e2.1 e2.2.1 hr ⟨fun a k => by rw [e2.2.2.1]; exact i1 a k, fun a k ha => ?_, fun z => absurd z (by decide), fun _ => ⟨fun a b c e hs => (fr 19 _ (by omega) (by omega)).trans (g1 a b c e hs), fun n hn => (fr 20 _ (by omega) (by omega)).trans (g2 n hn), fun K hK => (fr 21 _ (by omega) (by omega)).trans (g3 K hK)⟩, fun _ => ⟨e3, e4⟩, fun z => absurd z (by decide)⟩⟩
      rw [fr a k (fun z => ha (by rw [z]; decide)) (fun z => ha (by rw [z]; decide))]
      exact i2 a k ha
    · cases h
  · split at h
    · next hc =>
      obtain ⟨hc1, hc2⟩ := hc
      rw [Bool.and_eq_true, Bool.and_eq_true, Bool.and_eq_true] at hc2
      obtain ⟨o0, o1, o2, o3⟩ := hc2
      obtain ⟨k0, l0⟩ := kd o0
      obtain ⟨k1, l1⟩ := kd o1
      obtain ⟨k2, l2⟩ := kd o2
      obtain ⟨k3, l3⟩ := kd o3
      obtain ⟨rfl, rfl⟩ := Prod.mk.inj (Option.some.inj h)
      obtain ⟨g1, g2, g3⟩ := i4 (by omega)
      obtain ⟨p1, p2⟩ := i5 (by omega)
      obtain ⟨m', e1, e2, e3, e4⟩ := t_sumUp (N := 100000) (Nat.le_refl _) (x1 := 29) (x2 := 23) (x3 := 24) (by omega) (by omega) (by omega) l0 l1 l2 l3 (m := m) (G := paF) g2 p2
      have fr : ∀ a k, a ≠ 23 → a ≠ 24 → m'.2.2.1 a k = m.2.2.1 a k := fun a k z1 z2 => by rw [e2.2.2.2 a (by simp; omega)]
      refine ⟨(m', S), e_Ranks_sumUp 100000 (by omega) k0 k1 k2 k3 e1, Rep_x e2.1 e2.2.1 hr ⟨fun a k => by rw [e2.2.2.1]; exact i1 a k, fun a k ha => ?_, fun z => absurd z (by decide), fun _ => ⟨fun a b c e hs => (fr 19 _ (by omega) (by omega)).trans (g1 a b c e hs), fun n hn => (fr 20 _ (by omega) (by omega)).trans (g2 n hn), fun K hK => (fr 21 _ (by omega) (by omega)).trans (g3 K hK)⟩, fun _ => ⟨fun K b hK hb => (fr 22 _ (by omega) (by omega)).trans (p1 K b hK hb), fun K hK => (fr 29 _ (by omega) (by omega)).trans (p2 K hK)⟩, fun _ => ⟨e3, e4⟩⟩⟩
      rw [fr a k (fun z => ha (by rw [z]; decide)) (fun z => ha (by rw [z]; decide))]
      exact i2 a k ha
    · cases h
  · cases h
/-- nothing is there yet -/
def w00 : Wd := ((fun _ _ => 0, fun _ _ => 0, fun _ _ => 0, fun _ _ => 0), (fun _ _ => none, fun _ => 0, fun _ => 0, fun _ _ => none, 0, 0))
theorem Rep_00 {I : IxP} (h : I 0 (fun _ _ => 0) (fun _ _ => 0)) : Rep I qEm w00 := ⟨⟨rfl, rfl, h⟩, fun a c h => (by cases h), fun a c h => (by cases h), fun a c k h => (by cases h), fun a c k h => (by cases h), fun a _ => ⟨rfl, rfl, fun _ => ⟨rfl, rfl, rfl⟩⟩⟩
theorem okRun_ex {o : Option (Option Value × Qs)} {f : Qs → Bool} (h : okRun o f = true) : ∃ q, o = some (none, q) ∧ f q = true := by
  unfold okRun at h
  split at h
  · next q => exact ⟨q, rfl, h⟩
  · cases h
/-- references lie among the keys -/
def RCl (w : Wd) : Prop := (∀ a k t, a < wN w → wK w a < 11 → wR w a k = some t → t < wN w) ∧ ∀ a k t, a < wN w → 11 ≤ wK w a → wZ w a k = some t → t < wN w
theorem mk2_in {α : Type} : ∀ {l : List (Nat × Nat × α)} {a k : Nat} {v : α}, mk2 l a k = some v → (a, k, v) ∈ l
  | [], _, _, _, h => by cases h
  | e :: l, a, k, v, h => by
    rw [mk2_c] at h
    split at h
    · next z =>
      have : e.2.2 = v := Option.some.inj h
      have e' : e = (a, k, v) := by rw [← z.1, ← z.2, ← this]
      rw [e']
      exact List.mem_cons_self
    · exact List.mem_cons_of_mem _ (mk2_in h)
theorem Rep.cl {I : IxP} {q : Qs} {w : Wd} (h : Rep I q w) (hk : ∀ a, a < mkN q → ∃ c, mkK q a = some c) (h1 : q.2.2.2.1.all (fun e => match e.2.2 with
  | some t => decide (t < mkN q)
  | none => true) = true) (h2 : q.2.2.2.2.2.all (fun e => match e.2.2 with
  | some t => decide (t < mkN q)
  | none => true) = true) : RCl w := by
  refine ⟨fun a k t ha hc ht => ?_, fun a k t ha hc ht => ?_⟩
  · rw [h.1.1] at ha ⊢
    obtain ⟨c, hkc⟩ := hk a ha
    have hkw := (h.2.1 a c hkc).2
    rw [(h.2.2.2.1 a c k hkc (by omega)).1] at ht
    unfold mkR at ht
    cases e : mk2 q.2.2.2.1 a k with
    | none => rw [e] at ht; cases ht
    | some o =>
      rw [e] at ht
      have ho : o = some t := ht
      have := List.all_eq_true.mp h1 _ (mk2_in e)
      rw [ho] at this
      exact of_decide_eq_true this
  · rw [h.1.1] at ha ⊢
    obtain ⟨c, hkc⟩ := hk a ha
    have hkw := (h.2.1 a c hkc).2
    rw [h.2.2.2.2.1 a c k hkc (by omega)] at ht
    unfold mkZ at ht
    cases e : mk2 q.2.2.2.2.2 a k with
    | none => rw [e] at ht; cases ht
    | some o =>
      rw [e] at ht
      have ho : o = some t := ht
      have := List.all_eq_true.mp h2 _ (mk2_in e)
      rw [ho] at this
      exact of_decide_eq_true this
end MADEC
