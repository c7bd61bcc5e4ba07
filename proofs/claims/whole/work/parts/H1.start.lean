/-! THE START: classes, arrays' classes, constants, the script. -/
def pre1 : Cond := Jvm.Cond.and given_1 narrow_1
def tmS (i : Nat) : Term := Term.string "SharesComingModel" (sIx i)
theorem st_ex : ∀ i, i < 8 → Cond.exactly (tmS i) "java/lang/String" ∈ flatC pre1 := by decide +kernel
theorem st_co : ∀ i, i < 8 → Cond.eq (.field (tmS i) "java/lang/String" "coder" "B") (.int 0) ∈ flatC pre1 := by decide +kernel
theorem st_ar : ∀ i, i < 8 → Cond.arrayOf (.field (tmS i) "java/lang/String" "value" "[B") .byte ∈ flatC pre1 := by decide +kernel
theorem st_le : ∀ i, i < 8 → Cond.eq (.length (.field (tmS i) "java/lang/String" "value" "[B")) (.int (Int32.ofNat (sLen.getD i 0))) ∈ flatC pre1 := by decide +kernel
theorem st_el : ∀ i, i < 8 → ∀ j, j < sLen.getD i 0 → Cond.eq (.elem (.field (tmS i) "java/lang/String" "value" "[B") (.int (Int32.ofNat j))) (.int ((sByt.getD i []).getD j 0)) ∈ flatC pre1 := by decide +kernel
theorem st_ne : ∀ i, i < 8 → ∀ j, j < 8 → i ≠ j → (Cond.not (Cond.eq (tmS i) (tmS j)) ∈ flatC pre1 ∨ Cond.not (Cond.eq (tmS j) (tmS i)) ∈ flatC pre1) := by decide +kernel
theorem st_cs : Cond.eq (.static "java/lang/String" "COMPACT_STRINGS" "Z") (.int 1) ∈ flatC pre1 := by decide +kernel
theorem st_sf : Cond.isRef (.static "jdk/internal/util/Preconditions" "SIOOBE_FORMATTER" "Ljava/util/function/BiFunction;") ∈ flatC pre1 := by decide +kernel
theorem tq_at {q j : Nat} {w : Cond} (h : (tq q)[j]? = some w) : w ∈ lw_tbl := tq_in (List.mem_of_getElem? h)
theorem st_sr : ∀ i, i < 8 → Cond.stringRef (oN 10) (sIx i) (sTx i) ∈ lw_tbl := fun i hi => by
  match i, hi with
  | 0, _ => exact tq_at (q := 5) (j := 199) rfl
  | 1, _ => exact tq_at (q := 6) (j := 15) rfl
  | 2, _ => exact tq_at (q := 6) (j := 24) rfl
  | 3, _ => exact tq_at (q := 6) (j := 25) rfl
  | 4, _ => exact tq_at (q := 6) (j := 26) rfl
  | 5, _ => exact tq_at (q := 6) (j := 27) rfl
  | 6, _ => exact tq_at (q := 6) (j := 28) rfl
  | 7, _ => exact tq_at (q := 6) (j := 29) rfl
theorem st_in : ∀ c, c < 11 → ∃ e ∈ clF, e.2.2 = c := by decide
theorem inst_all {c : Nat} {r : vw_C} (h : vwCl[c]? = some r) : Cond.instantiable r.1 r.2.2 ∈ WL := by
  obtain ⟨e, e1, e2⟩ := st_in c (cl_lt h)
  obtain ⟨r', h1, _, h3, _⟩ := clF_ok e e1
  rw [e2, h] at h1
  have : r = r' := Option.some.inj h1
  rw [this]
  exact h3
section START
variable {s : State} {args : Array Value}
theorem arr_p {t : FieldType} (h : (Cond.arrayClass t).before args s = true) (ht : ∀ C, t ≠ .object C) : ∃ cA, ArrOfT s cA t ∧ va_RA s cA t := by
  obtain ⟨c, k, comp, h1, h2, h3⟩ := Cond.arrayClass_spec h
  refine ⟨c, fun n z => ⟨fun k h => (by cases h), k, h2, comp, h3⟩, ?_⟩
  cases t with
  | object C => exact absurd rfl (ht C)
  | _ => exact h1
theorem arr_o {C : String} (h : (Cond.arrayOver (.object C)).before args s = true) : ∃ cA, ArrOfT s cA (.object C) ∧ va_RA s cA (.object C) := by
  obtain ⟨comp, c, k, h1, _, h3, h4, h5⟩ := Cond.arrayOver_spec h
  exact ⟨c, fun n z => ⟨fun k h => (by cases h), k, h3, comp, h4⟩, k, comp, h3, h4, h1, h5⟩
theorem cx_start {b L : Nat} {xs : Nat → Int32} (hts : ∀ w ∈ lw_tbl, w.before args s = true) (hX : va_X b L xs s s.heap) (hbl : b < s.heap.size) (hgv : pre1.before args s = true) : ∃ g : (Nat → Nat) × (Nat → Nat) × Nat × Option Nat × va_G × (Nat → ClassId), ∀ (ad : Nat → Nat) (A : Nat → Prop), (∀ q, A q → s.heap.size ≤ q) → CX (ad, g) A xs L s ∧ gsc (ad, g) = b := by
  have hs := flat_of_before pre1 hgv
  have hW : ∀ w ∈ WL, w.before args s = true := fun w hw => hts w (WL_tbl hw)
  have hA0 : ∀ a : Nat, a < s.heap.size → ¬ (fun q : Nat => s.heap.size ≤ q) a := fun a ha h => by
    have : s.heap.size ≤ a := h
    omega
  obtain ⟨adK, adV, hS, hT⟩ := vk_Sof (args := args) (s := s) (N := 8) (tm := tmS) (len := sLen) (byt := sByt) (A := fun q : Nat => s.heap.size ≤ q) (by decide) (fun i hi => hs _ (st_ex i hi)) (fun i hi => hs _ (st_co i hi)) (fun i hi => hs _ (st_ar i hi)) (fun i hi => hs _ (st_le i hi)) (fun i hi j hj => hs _ (st_el i hi j hj)) (fun i j hi hj hij => (st_ne i hi j hj hij).imp (hs _) (hs _)) hA0
  have hZ1 := va_Zof (A := fun q : Nat => s.heap.size ≤ q) (hts _ (tq_at (q := 5) (j := 216) (w := .laysStatic "java/lang/String" "COMPACT_STRINGS" "Z") rfl)) (hts _ (tq_at (q := 1) (j := 14) (w := .initialized "java/lang/String") rfl)) (va_eqt (hs _ st_cs)) hA0
  have hZ2 := va_Zqof (A := fun q : Nat => s.heap.size ≤ q) (hts _ (tq_at (q := 5) (j := 232) (w := .laysStatic "jdk/internal/util/Preconditions" "SIOOBE_FORMATTER" "Ljava/util/function/BiFunction;") rfl)) (hts _ (tq_at (q := 1) (j := 16) (w := .initialized "jdk/internal/util/Preconditions") rfl)) (hs _ st_sf) hA0
  obtain ⟨fm, hZ3⟩ : ∃ fm : Option Nat, va_Z "jdk/internal/util/Preconditions" "SIOOBE_FORMATTER" "Ljava/util/function/BiFunction;" (va_rf fm) (fun q : Nat => s.heap.size ≤ q) s s.heap := by
    rcases hZ2 with h | ⟨t, h⟩
    · exact ⟨none, h⟩
    · exact ⟨some t, h⟩
  have hcl : ∀ c : Nat, ∃ q : ClassId × (Nat → Nat), ∀ r, vwCl[c]? = some r → u_Kn s r.1 r.2.1 r.2.2 q.1 q.2 := fun c => by
    cases hr : vwCl[c]? with
    | none => exact ⟨(0, fun _ => 0), fun r h => by cases h⟩
    | some r =>
      obtain ⟨cC, iS, h⟩ := u_known (C := r.1) (T := r.2.1) (N := r.2.2) hW (inCl_WL c r hr) (hW _ (inst_all hr))
      exact ⟨(cC, iS), fun r' h' => by have : r = r' := Option.some.inj h'; rw [← this]; exact h⟩
  obtain ⟨dd, hdd⟩ := Classical.axiomOfChoice hcl
  obtain ⟨a0, ha0⟩ := arr_p (hW _ acw.1) (fun C h => by cases h)
  obtain ⟨a1, ha1⟩ := arr_p (hW _ acw.2.1) (fun C h => by cases h)
  obtain ⟨a2, ha2⟩ := arr_p (hW _ acw.2.2.1) (fun C h => by cases h)
  obtain ⟨a3, ha3⟩ := arr_p (hW _ acw.2.2.2) (fun C h => by cases h)
  have ho1 := hts _ (tq_at (q := 1) (j := 213) (w := .arrayOver (.object "SharesComing$Ends")) rfl)
  have ho2 := hts _ (tq_at (q := 2) (j := 10) (w := .arrayOver (.object "SharesComing$Sight")) rfl)
  obtain ⟨a4, ha4⟩ := arr_o ho1
  obtain ⟨a5, ha5⟩ := arr_o ho2
  refine ⟨(adK, adV, b, fm, (fun c => (dd c).1, fun c => (dd c).2), fun k => match k with
    | 0 => a0
    | 1 => a1
    | 2 => a2
    | 3 => a3
    | 4 => a4
    | _ => a5), fun ad A hA => ⟨⟨⟨fun c r hr => hdd c r hr, fun k q hq => ?_⟩, hS.narrow hA, hZ1.narrow hA, hZ3.narrow hA, fun i hi => vk_R.of (hts _ (st_sr i hi)) (hT i hi), ⟨hX, hbl, fun h => by have := hA b h; omega⟩, va_AO.of ho1, va_AO.of ho2⟩, rfl⟩⟩
  match k, hq with
  | 0, hq => cases hq; exact ha0
  | 1, hq => cases hq; exact ha1
  | 2, hq => cases hq; exact ha2
  | 3, hq => cases hq; exact ha3
  | 4, hq => cases hq; exact ha4
  | 5, hq => cases hq; exact ha5
  | k + 6, hq => simp at hq
end START
