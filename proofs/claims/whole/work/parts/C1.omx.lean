/-! KNOWN: the greatest of what may be nothing. -/
def omx (b r : Option Int) : Option Int := match b, r with
  | none, r => r
  | some y, none => some y
  | some y, some x => some (if x < y then y else x)
/-- o is the greatest of P, none if there is none; all are small -/
def oG (P : Int → Prop) (o : Option Int) : Prop := (∀ x, o = some x → isG P x ∧ sm6 x) ∧ (o = none → ∀ v, ¬ P v)
theorem oG_c {P Q : Int → Prop} {o : Option Int} (e : ∀ v, P v ↔ Q v) (h : oG P o) : oG Q o := ⟨fun x hx => ⟨isG_c e (h.1 x hx).1, (h.1 x hx).2⟩, fun hn v hv => h.2 hn v ((e v).mpr hv)⟩
theorem oG_0 {P : Int → Prop} (h : ∀ v, ¬ P v) : oG P none := ⟨fun x hx => (by cases hx), fun _ => h⟩
theorem oG_or {P Q : Int → Prop} {b r : Option Int} (h : oG P b) (h' : oG Q r) : oG (fun v => P v ∨ Q v) (omx b r) := by
  cases b with
  | none => exact oG_c (fun v => ⟨Or.inr, fun w => w.resolve_left (h.2 rfl v)⟩) h'
  | some y =>
    cases r with
    | none => exact oG_c (fun v => ⟨Or.inl, fun w => w.resolve_right (h'.2 rfl v)⟩) h
    | some x =>
      have a := h.1 y rfl
      have c := h'.1 x rfl
      refine ⟨fun z hz => ?_, fun hz => by cases hz⟩
      have hz' : (if x < y then y else x) = z := Option.some.inj hz
      rw [← hz']
      refine ⟨isG_or a.1 c.1, ?_⟩
      split
      · exact a.2
      · exact c.2
theorem zL_omx {P Q : Int → Prop} {b r : Option Int} (h : oG P b) (h' : oG Q r) : (if zL r < zL b then zL b else zL r) = zL (omx b r) := by
  cases b with
  | none =>
    cases r with
    | none => exact if_neg (show ¬ UNK < UNK by decide)
    | some x => exact if_neg (lz_nU (h'.1 x rfl).2)
  | some y =>
    cases r with
    | none => exact if_pos (U_lt (h.1 y rfl).2)
    | some x =>
      show (if lz x < lz y then lz y else lz x) = lz (if x < y then y else x)
      by_cases q : x < y
      · rw [if_pos q, if_pos ((lz_lt (h'.1 x rfl).2 (h.1 y rfl).2).mpr q)]
      · rw [if_neg q, if_neg (fun w => q ((lz_lt (h'.1 x rfl).2 (h.1 y rfl).2).mp w))]
