/-! COST: the class walks the rows by their traces. -/
/-- T comes of t, r days before the end -/
def Bl (M : Mt) : Nat → Nat → Nat → Prop
  | 0, t, T => T = t
  | r + 1, t, T => ∃ a, a < qA M (qD M - (r + 1)) ∧ Bl M r (tst M t (qD M - (r + 1)) a) T
def lowr (o : Option Int) (v : Int) : Prop := ∃ x, o = some x ∧ x ≤ v
def zMx (o : Option Int) : Int64 := match o with
  | none => 9223372036854775807
  | some x => lz x
def omn (o : Option Int) (x : Int) : Int := match o with
  | none => x
  | some y => if x < y then x else y
def Gw (M : Mt) (S : St) (fw : Nat) (m m' : Mm) : Prop := m'.1 = m.1 ∧ (∀ a k, ¬ (a = 30 ∧ k = 4) → m'.2.1 a k = m.2.1 a k) ∧ (∀ a, a ≠ fw → m'.2.2.1 a = m.2.2.1 a) ∧ (∀ f, (∀ t ∈ tKl, S.1 t 0 ≠ some f) → m'.2.2.2 f = m.2.2.2 f) ∧ (∀ g b, g < 3 → b < 3 → TE M S m g b → TE M S m' g b) ∧ ∀ g k, g < 3 → k < 4 → TS M S m g k → TS M S m' g k
/-- t is done with: nothing after it is less -/
def Dn (M : Mt) (g c : Nat) (fl : Int) (o : Option Int) (t e : Nat) : Prop := lowr o fl ∨ ∀ T, Bl M (qD M - e) t T → lowr o (knV M g c T)
def Iw (M : Mt) (g c d s : Nat) (fl : Int) (fw W r0 t0 : Nat) (m : Mm) (o : Option Int) (e : Nat) : Prop := mI m 30 3 = nI s ∧ mJ m 30 4 = zMx o ∧ mJ m 30 5 = lz fl ∧ (∀ x, o = some x → sm6 x ∧ ∃ T, Bl M r0 t0 T ∧ x = knV M g c T) ∧ ∀ e' t' p, e ≤ e' → e' ≤ qD M → Tc M c (e' - d) t' → plS M t' e' = some p → p < W → mX m fw p = nI s → Dn M g c fl o t' e'
section CWALK
variable {N : Nat} {S : St} {M : Mt}
theorem Gw.refl {fw : Nat} {m : Mm} : Gw M S fw m m := ⟨rfl, fun _ _ _ => rfl, fun _ _ => rfl, fun _ _ => rfl, fun _ _ _ _ h => h, fun _ _ _ _ h => h⟩
theorem Gw.trans {fw : Nat} {m m1 m2 : Mm} (h : Gw M S fw m m1) (h' : Gw M S fw m1 m2) : Gw M S fw m m2 := ⟨h'.1.trans h.1, fun a k q => (h'.2.1 a k q).trans (h.2.1 a k q), fun a q => (h'.2.2.1 a q).trans (h.2.2.1 a q), fun f hf => (h'.2.2.2.1 f hf).trans (h.2.2.2.1 f hf), fun g b hg hb q => h'.2.2.2.2.1 g b hg hb (h.2.2.2.2.1 g b hg hb q), fun g k hg hk q => h'.2.2.2.2.2 g k hg hk (h.2.2.2.2.2 g k hg hk q)⟩
theorem Gd.gw {fw : Nat} {m m' : Mm} (h : Gd M S m m') : Gw M S fw m m' := ⟨h.1, fun a k _ => by rw [h.2.1], fun a _ => by rw [h.2.2.1], h.2.2.2.1, h.2.2.2.2.1, h.2.2.2.2.2⟩
theorem Gw.env {fw : Nat} {m m' : Mm} (hf : fw = 31 ∨ 101 ≤ fw) (h : Gw M S fw m m') (he : Env S m M) : Env S m' M := Env_f (fun a k _ _ _ _ => by rw [h.1]) (fun a ha => h.2.2.1 a (by omega)) he.2.2.2.2 he
theorem Gw_of {fw : Nat} {m m' : Mm} (h1 : m'.1 = m.1) (h2 : ∀ a k, ¬ (a = 30 ∧ k = 4) → m'.2.1 a k = m.2.1 a k) (h3 : ∀ a, a ≠ fw → m'.2.2.1 a = m.2.2.1 a) (h4 : m'.2.2.2 = m.2.2.2) : Gw M S fw m m' := ⟨h1, h2, h3, fun f _ => by rw [h4], fun g b _ _ q => TE_of (fun f hf => ⟨hf, rfl, fun p => by unfold mYy; rw [h4]⟩) q, fun g k _ _ q => TS_of (fun f hf => ⟨hf, rfl, fun p => by unfold mYy; rw [h4]⟩) q⟩
theorem zM_min {o : Option Int} {x : Int} (hx : sm6 x) (ho : ∀ y, o = some y → sm6 y) : (if lz x < zMx o then lz x else zMx o) = lz (omn o x) := by
  cases o with
  | none => exact if_pos (lz_B hx)
  | some y =>
    show (if lz x < lz y then lz x else lz y) = lz (if x < y then x else y)
    by_cases q : x < y
    · rw [if_pos q, if_pos ((lz_lt hx (ho y rfl)).mpr q)]
    · rw [if_neg q, if_neg (fun w => q ((lz_lt hx (ho y rfl)).mp w))]
theorem omn_le (o : Option Int) (x : Int) : omn o x ≤ x ∧ (∀ y, o = some y → omn o x ≤ y) ∧ (omn o x = x ∨ o = some (omn o x)) := by
  cases o with
  | none => exact ⟨Int.le_refl _, fun y h => (by cases h), Or.inl rfl⟩
  | some y =>
    have e : omn (some y) x = if x < y then x else y := rfl
    rw [e]
    by_cases q : x < y
    · rw [if_pos q]
      refine ⟨Int.le_refl _, fun z h => ?_, Or.inl rfl⟩
      have : y = z := Option.some.inj h
      omega
    · rw [if_neg q]
      refine ⟨by omega, fun z h => ?_, Or.inr rfl⟩
      have : y = z := Option.some.inj h
      omega
theorem lo_le {o : Option Int} {fl : Int} (hf : sm6 fl) (ho : ∀ y, o = some y → sm6 y) : zMx o ≤ lz fl ↔ lowr o fl := by
  cases o with
  | none =>
    refine ⟨fun h => ?_, fun ⟨x, h, _⟩ => by cases h⟩
    have h2 := lz_B hf
    have h' : (9223372036854775807 : Int64) ≤ lz fl := h
    rw [Int64.le_iff_toInt_le] at h'
    rw [Int64.lt_iff_toInt_lt] at h2
    have e : BEY.toInt = (9223372036854775807 : Int64).toInt := rfl
    omega
  | some y =>
    refine Iff.trans (lz_le (ho y rfl) hf) ⟨fun h => ⟨y, rfl, h⟩, fun ⟨x, h, h'⟩ => ?_⟩
    have : y = x := Option.some.inj h
    omega
theorem Dn_mono {g c t e : Nat} {fl : Int} {o o' : Option Int} (h : ∀ v, lowr o v → lowr o' v) (hd : Dn M g c fl o t e) : Dn M g c fl o' t e := hd.imp (h fl) (fun q T hT => h _ (q T hT))
theorem Tc_dm {c j t : Nat} (hj : j ≤ 6) (h : Tc M c j t) : Dm M t := ⟨h.1.1, h.1.2.1, by have := h.1.2.2; omega⟩
theorem tC_was {fw W : Nat} {po : Option Nat} {m : Mm} (hfw : S.1 30 2 = some fw) (hWl : S.2.2.1 fw = W) (hW31 : W < 2 ^ 31) (hp31 : ∀ v, po = some v → v < 2 ^ 31) : ∃ (b : Bool) (m3 : Mm), f_Rows_wasWalked N S (zOpt po) m = some (tf b, m3) ∧ m3.1 = m.1 ∧ m3.2.1 = m.2.1 ∧ m3.2.2.2 = m.2.2.2 ∧ (∀ a, a ≠ fw → m3.2.2.1 a = m.2.2.1 a) ∧ (∀ i, mX m3 fw i = mX m fw i ∨ (po = some i ∧ mX m3 fw i = mI m 30 3)) ∧ (b = true → ∃ p, po = some p ∧ p < W ∧ mX m fw p = mI m 30 3) := by
  unfold f_Rows_wasWalked
  rw [hfw]
  simp only [b1_s, jn]
  rw [hWl]
  cases po with
  | none =>
    rw [if_pos (show zOpt none < 0 by decide)]
    exact ⟨false, m, rfl, rfl, rfl, rfl, fun _ _ => rfl, fun i => Or.inl rfl, fun h => by cases h⟩
  | some p =>
    have hp := hp31 p rfl
    rw [show zOpt (some p) = nI p from rfl, if_neg (nI_pos hp)]
    by_cases q : p < W
    · have hix : ix (nI p) W := nI_in q hW31
      rw [if_pos (show nI p < Int32.ofNat W from nI_lt q hW31)]
      simp only [ck_t hix, nI_clamp hp]
      have hset : ∀ i, mX (vX m fw p (mI m 30 3)) fw i = mX m fw i ∨ (some p = some i ∧ mX (vX m fw p (mI m 30 3)) fw i = mI m 30 3) := fun i => by
        by_cases w : i = p
        · right
          refine ⟨by rw [w], ?_⟩
          show u2 m.2.2.1 fw p (mI m 30 3) fw i = _
          rw [w, u2_s]
        · left
          show u2 m.2.2.1 fw p (mI m 30 3) fw i = _
          unfold u2
          rw [if_neg (fun z => w z.2)]
          rfl
      by_cases y : mX m fw p = mI m 30 3
      · rw [if_pos y, ck_t (Or.inr trivial)]
        exact ⟨true, _, rfl, rfl, rfl, rfl, fun a ha => vX_o ha, hset, fun _ => ⟨p, rfl, q, y⟩⟩
      · rw [if_neg y, ck_t (Or.inl trivial)]
        exact ⟨false, _, rfl, rfl, rfl, rfl, fun a ha => vX_o ha, hset, fun h => by cases h⟩
    · rw [if_neg (show ¬ nI p < Int32.ofNat W from nI_nlt (by omega) (by omega))]
      exact ⟨false, m, rfl, rfl, rfl, rfl, fun _ _ => rfl, fun i => Or.inl rfl, fun h => by cases h⟩
end CWALK
