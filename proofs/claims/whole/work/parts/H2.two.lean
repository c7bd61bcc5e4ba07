/-! TWO MEMORIES in one heap. -/
abbrev Gr : Type := (Nat → Nat) × (Nat → Nat) × Nat × Option Nat × va_G × (Nat → ClassId)
section TWO
variable {al al' : Bool} {g : Gr} {A A' : Nat → Prop} {w : Wd} {H H1 : Heap}
theorem HW_lt {G : Gc} (h : HW al G A w H) {a : Nat} (ha : a < wN w) : gad G a < H.size := by
  rcases (h.1 a ha).1 with ⟨r, _, cell, h1, _⟩ | ⟨_, _, h1⟩
  · exact (Array.getElem?_eq_some_iff.mp h1).1
  · exact (Array.getElem?_eq_some_iff.mp h1).1
theorem HW_keep {G : Gc} (h : HW al G A w H) (hk : ∀ a, a < wN w → H1[gad G a]? = H[gad G a]?) (hz : al = true → H1.size = H.size) : HW al G A w H1 := by
  refine ⟨fun a ha => ⟨?_, (h.1 a ha).2⟩, h.2.1, fun q => ?_⟩
  · rcases (h.1 a ha).1 with ⟨r, r1, r2⟩ | ⟨k1, k2, k3⟩
    · exact Or.inl ⟨r, r1, r2.kept (hk a ha)⟩
    · exact Or.inr ⟨k1, k2, by rw [hk a ha]; exact k3⟩
  · obtain ⟨z1, z2, z3⟩ := h.2.2 q
    rw [← hz q] at z1 z3
    exact ⟨z1, z2, z3⟩
theorem cv_re {ad ad' : Nat → Nat} {o : Option Nat} (h : ∀ t, o = some t → ad' t = ad t) : cv (ad', g) (rfv o) = cv (ad, g) (rfv o) := by
  cases o with
  | none => rfl
  | some t =>
    show Value.ref (ad' t) = Value.ref (ad t)
    rw [h t rfl]
theorem fV_re {ad ad' : Nat → Nat} {a c k : Nat} (h : ∀ t, wR w a k = some t → ad' t = ad t) : fV (ad', g) w a c k = fV (ad, g) w a c k := by
  unfold fV gV
  by_cases q1 : fty c k = 1
  · rw [if_pos q1]; rfl
  · rw [if_neg q1]
    by_cases q2 : fty c k = 2
    · rw [if_pos q2]; exact cv_re h
    · rw [if_neg q2]; rfl
theorem arW_re {ad ad' : Nat → Nat} {a : Nat} (h : ∀ k t, wZ w a k = some t → ad' t = ad t) : arW (ad', g) w a = arW (ad, g) w a := by
  unfold arW
  by_cases q1 : wK w a = 13
  · rw [if_pos q1, if_pos q1]; rfl
  · rw [if_neg q1, if_neg q1]
    by_cases q2 : 15 ≤ wK w a
    · rw [if_pos q2, if_pos q2]
      have e : (fun j => cv (ad', g) (rfv (wZ w a j))) = fun j => cv (ad, g) (rfv (wZ w a j)) := funext (fun j => cv_re (h j))
      rw [e]
      rfl
    · rw [if_neg q2, if_neg q2]; rfl
/-- other addresses for keys that are not there yet -/
theorem HW_re {ad ad' : Nat → Nat} (h : HW al (ad, g) A w H) (hcl : RCl w) (he : ∀ a, a < wN w → ad' a = ad a) (hinj : ∀ a b, ad' a = ad' b → a = b) (hA : ∀ a, a < wN w → A' (ad a)) (hal : al' = true → H.size = ad' (wN w) ∧ (∀ n, wN w ≤ n → ad' (n + 1) = ad' n + 1) ∧ ∀ q, H.size ≤ q → A' q) : HW al' (ad', g) A' w H := by
  refine ⟨fun a ha => ⟨?_, ?_⟩, hinj, hal⟩
  · rcases (h.1 a ha).1 with ⟨r, r1, r2⟩ | ⟨k1, k2, k3⟩
    · refine Or.inl ⟨r, r1, ?_⟩
      have hk := cl_lt r1
      have r2' : t_OB (ad a) (g.2.2.2.2.1.1 (wK w a)) r.2.2 (g.2.2.2.2.1.2 (wK w a)) H (fV (ad, g) w a (wK w a)) := r2
      show t_OB (ad' a) (g.2.2.2.2.1.1 (wK w a)) r.2.2 (g.2.2.2.2.1.2 (wK w a)) H (fV (ad', g) w a (wK w a))
      rw [he a ha]
      exact r2'.to (fun k _ => (fV_re (fun t ht => he t (hcl.1 a k t ha hk ht))).symm)
    · refine Or.inr ⟨k1, k2, ?_⟩
      have k3' : H[ad a]? = some (arW (ad, g) w a) := k3
      show H[ad' a]? = some (arW (ad', g) w a)
      rw [he a ha, k3', arW_re (fun k t ht => he t (hcl.2 a k t ha k1 ht))]
  · show A' (ad' a)
    rw [he a ha]
    exact hA a ha
variable {p : Program} {l : Launch} {e : Jvm.Env} {R : Room} {s : State} {m : MethodId} {args : Array Value} {below : List Frame} {meth : Method} {c0 : Code} {Q : State → Prop}
/-- behind a call: what isn't its own stays -/
theorem two_call {G : Gc} {Aall : Nat → Prop} {locs : List Loc} {cells slots mc ms : Nat} {pc : Nat} {ls : Array Slot} {st0 rest : List Value} {r : Option Value} {w' : Wd} {a : Array Value} (hsub : ∀ q, A q → Aall q) (hr : va_Run p l e R s m args below meth c0 H locs cells slots mc ms (F0 m pc ls st0) rest (QR al G A r w' a) A) (hS : va_S Aall s.heap H locs)
    (kk : ∀ (H1 : Heap) (locs1 : List Loc), HW al G A w' H1 → va_S Aall s.heap H1 locs1 → H.size ≤ H1.size → (∀ q : Nat, q < H.size → ¬ A q → H1[q]? = H[q]?) → W p l e R s m args below meth c0 H1 locs1 (cells + mc) (slots + ms) Q (F0 m (pc + 3) ls ((r.map (cv G)).toList ++ rest))) : W p l e R s m args below meth c0 H locs cells slots Q (F0 m pc ls st0) := by
  intro T hT X
  obtain ⟨v, st₀, t, T', L, h0, X', hL, e1, e2, ⟨hv, hW', hz, hk⟩, st⟩ := hr T hT X
  cases hv
  rw [h0] at hz hk
  obtain ⟨t2, a1, b1⟩ := kk T'.heap (locs ++ L) (by rw [e1]; exact hW')
    ⟨Nat.le_trans hS.1 (by rw [e1]; exact hz), fun q h1 h2 => by rw [e1, hk q (Nat.lt_of_lt_of_le h1 hS.1) (fun h => h2 (hsub q h))]; exact hS.2.1 q h1 h2, fun q hq => by
      rcases List.mem_append.mp hq with h | h
      · exact hS.2.2 q h
      · exact hsub _ (hL q h)⟩ (by rw [e1]; exact hz) (fun q h1 h2 => by rw [e1]; exact hk q h1 h2) T' rfl X'
  exact ⟨t2, st t2 a1, b1⟩
end TWO
