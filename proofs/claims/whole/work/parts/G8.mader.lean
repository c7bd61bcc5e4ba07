/-! MAKING: the reference is made. -/
def orcN : Xc := fun _ _ _ => none
def chkR1 (q : Qs) : Bool := decide (mkN q = 26) && (decide (mkS q = 1372122) && (kTR.all (fun e => decide (mkK q e.1 = some e.2)) && (lTR.all (fun e => decide (mkL q e.1 = some e.2)) && rTR.all (fun e => decide (mkR q e.1 e.2.1 = some e.2.2)))))
def chkR2 (q : Qs) : Bool := decide (mkI q 0 25 = -1) && ([1, 15, 16, 18, 21, 22, 24].all (fun k => decide (mkI q 0 k = 0)))
def chkR3 (q : Qs) : Bool := q.2.2.2.1.all (fun e => match e.2.2 with
  | some t => decide (t < 26)
  | none => true) && q.2.2.2.2.2.all (fun e => match e.2.2 with
  | some t => decide (t < 26)
  | none => true)
def chkR (q : Qs) : Bool := chkR1 q && (chkR2 q && chkR3 q)
set_option maxRecDepth 100000 in
theorem run_R : okRun (xev orcN 1000 3 143 [.ref 0] (qNO qEm 10 47)) chkR = true := by decide +kernel
def IxZ : IxP := fun _ x y => (∀ a k, x a k = 0) ∧ ∀ a k, y a k = 0
theorem IxZ_A : IxA IxZ := by
  intro t n x y _ h
  exact ⟨fun a k => by unfold ur; split <;> first | rfl | exact h.1 a k, fun a k => by unfold ur; split <;> first | rfl | exact h.2 a k⟩
section MADER
variable {xs : Nat → Int32} {L : Nat}
theorem kTR_26 : ∀ a, a < 26 → ∃ c, (a, c) ∈ kTR := fun a ha => by
  have h : ∀ a, a < 26 → (kTR.map (fun e => e.1)).contains a = true := by decide +kernel
  have h1 := h a ha
  rw [List.contains_iff_mem] at h1
  obtain ⟨e, e1, e2⟩ := List.mem_map.mp h1
  exact ⟨e.2, by rw [← e2]; exact e1⟩
theorem mkd_R : ∃ (m : Mm) (S : St), Ev xs L true 3 143 [.ref 0] (nO w00 10 47) none (m, S) ∧ ShR S ∧ RW m mZero ∧ mI m 0 15 = 0 ∧ RNw m 0 0 none ∧ mI m 0 1 = 0 ∧ (∀ a i, mX m a i = 0) ∧ S.2.2.2.2.1 = 26 ∧ S.2.2.2.2.2 = 1372122 ∧ RCl (m, S) := by
  obtain ⟨q, hq, hc⟩ := okRun_ex run_R
  have h0 : Rep IxZ (qNO qEm 10 47) (nO w00 10 47) := Rep_NO (by omega) (Rep_00 ⟨fun _ _ => rfl, fun _ _ => rfl⟩)
  obtain ⟨⟨m, S⟩, hev, hr⟩ := xev_ok (xs := xs) (L := L) IxZ_A (fun d m2 as q r q' w _ h => by cases h) 3 143 [.ref 0] _ none q _ hq h0
  unfold chkR at hc
  rw [Bool.and_eq_true, Bool.and_eq_true] at hc
  obtain ⟨c1, c2, c3⟩ := hc
  unfold chkR1 at c1
  rw [Bool.and_eq_true, Bool.and_eq_true, Bool.and_eq_true, Bool.and_eq_true, decide_eq_true_eq, decide_eq_true_eq] at c1
  obtain ⟨c11, c12, c13, c14, c15⟩ := c1
  unfold chkR2 at c2
  rw [Bool.and_eq_true, decide_eq_true_eq] at c2
  obtain ⟨c21, c22⟩ := c2
  unfold chkR3 at c3
  rw [Bool.and_eq_true] at c3
  have hN : S.2.2.2.2.1 = 26 := hr.1.1.trans c11
  have kk : ∀ a c, (a, c) ∈ kTR → mkK q a = some c := fun a c h => of_decide_eq_true (all_in c13 h)
  have k0 : mkK q 0 = some 10 := kk 0 10 (by decide)
  have ki : ∀ k, m.1 0 k = mkI q 0 k := fun k => (hr.2.2.2.1 0 10 k k0 (by omega)).2.1
  have kr : ∀ k, S.1 0 k = mkR q 0 k := fun k => (hr.2.2.2.1 0 10 k k0 (by omega)).1
  have kj : ∀ k, m.2.1 0 k = 0 := fun k => (hr.2.2.2.1 0 10 k k0 (by omega)).2.2
  have kz : ∀ k, k ∈ [1, 15, 16, 18, 21, 22, 24] → m.1 0 k = 0 := fun k hk => (ki k).trans (of_decide_eq_true (all_in c22 hk))
  have hX : ∀ a i, mX m a i = 0 := hr.1.2.2.1
  refine ⟨m, S, hev, ⟨fun e he => ⟨?_, (hr.2.1 _ _ (kk e.1 e.2 he)).2⟩, fun e he => (hr.2.2.1 _ _ (of_decide_eq_true (all_in c14 he))).2, fun e he => ?_⟩, ⟨kz 16 (by decide), kz 18 (by decide), kz 21 (by decide), kz 22 (by decide), fun h s hh => absurd hh (Nat.not_lt_zero _), fun d hd => absurd hd (Nat.not_lt_zero _), fun d a hd => absurd hd (Nat.not_lt_zero _)⟩, kz 15 (by decide), ⟨(kj 23).trans rz_00, kz 24 (by decide), (ki 25).trans c21⟩, kz 1 (by decide), hX, hN, hr.1.2.1.trans c12, hr.cl (fun a ha => ?_) (by rw [c11]; exact c3.1) (by rw [c11]; exact c3.2)⟩
  · have := (hr.2.1 _ _ (kk e.1 e.2 he)).1
    rw [c11] at this
    rw [hN]; exact this
  · have h := of_decide_eq_true (all_in c15 he)
    have e0 : e.1 = 0 := (by decide : ∀ e ∈ rTR, e.1 = 0) e he
    rw [e0] at h ⊢
    rw [kr]; exact h
  · rw [c11] at ha
    obtain ⟨c, hc⟩ := kTR_26 a ha
    exact ⟨c, kk a c hc⟩
end MADER
