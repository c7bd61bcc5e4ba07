/-! FARE: the reference. -/
section RFARE
variable {N : Nat} {M : Mt}
theorem tR_before (hM : qOk M) {mr : Mm} {way c s h o : Nat} (hW : RW mr M) (hN : 1000000 ≤ N) (hway : way < 3) (hL : Lg M c) (hh : h < qH M) (ho : o < qH M) (hs : s < 3) : f_Mo_isBefore N (rz c) (nI h) (nI o) (nI s) (nI way) mr = some (tf (decide (clm M way c s o < clm M way c s h))) := by
  have hH := hM.1
  have w1 := wv_le hM (c := c) (k := h) hh
  have w2 := wv_le hM (c := c) (k := o) ho
  have v1 := hM.2.2.2.2.2.1 h s hh hs
  have v2 := hM.2.2.2.2.2.1 o s ho hs
  have t1 := th_tt (c := c) (h := h) (by omega)
  have t2 := th_tt (c := c) (h := o) (by omega)
  have t3 := hL.2.2.2.2
  have dec : ∀ (a b : Nat), a < 2 ^ 31 → b < 2 ^ 31 → (if nI a ≤ nI b then (some 0 : Option Int32) else some 1) = some (tf (decide (b < a))) := by
    intro a b ha hb
    by_cases q : a ≤ b
    · rw [if_pos (nI_le q hb)]
      simp [show ¬ b < a by omega, tf]
    · rw [if_neg (nI_ge (by omega) ha)]
      simp [show b < a by omega, tf]
  unfold f_Mo_isBefore clm
  rcases (by omega : way = 0 ∨ way = 1 ∨ way = 2) with rfl | rfl | rfl
  · rw [if_pos (show nI 0 = 0 from rfl), r_ix3, r_ix3, ck_t (nI_in (by omega) (by omega)), ck_t (nI_in (by omega) (by omega)), nI_clamp (by omega), nI_clamp (by omega), hW.2.2.2.2.1 h s hh hs, hW.2.2.2.2.1 o s ho hs, dec _ _ (by omega) (by omega), if_neg (by omega), if_neg (by omega), if_neg (by omega), if_neg (by omega)]
    congr 2
    exact decide_eq_decide.mpr (by omega)
  · rw [if_neg (show ¬ nI 1 = 0 by decide), if_neg (show ¬ nI 1 = 2 by decide), t_MmanyOf (by omega), b1_s, t_MmanyOf (by omega), b1_s]
    show (if nI (th c o) ≤ nI (th c h) then (some 0 : Option Int32) else some 1) = _
    rw [dec _ _ (by omega) (by omega), if_pos rfl, if_pos rfl]
    congr 2
    exact decide_eq_decide.mpr (by omega)
  · rw [if_neg (show ¬ nI 2 = 0 by decide), if_pos (show nI 2 = 2 from rfl), tR_worthTo hM hW (by omega) hh (by omega), b1_s, tR_worthTo hM hW (by omega) ho (by omega), b1_s, dec _ _ (by omega) (by omega), if_neg (by omega), if_pos rfl, if_neg (by omega), if_pos rfl]
    congr 2
    exact decide_eq_decide.mpr (by omega)
theorem tR_goes (hM : qOk M) (hE : qE M) {mr : Mm} {way c s : Nat} {x5 : Int32} (hW : RW mr M) (hN : 1000000 ≤ N) (hway : way < 4) (hL : Lg M c) (hs : s < 3) : f_Mo_goesTo N (rz c) (nI s) (nI way) x5 mr = some (nI (gwy M way c s)) := by
  have hH := hM.1
  have hO := hM.2.2.1
  have hcl : ∀ h, clm M way c s h = clm M (if way = 3 then 0 else way) c s h := fun h => by
    unfold clm
    by_cases q : way = 3
    · rw [if_pos q, if_neg (by omega), if_neg (by omega), if_neg (by omega), if_neg (by omega)]
    · rw [if_neg q]
  have loop : f_Mo_goesTo_L25 N (rz c) (nI s) (nI way) mr (fun (z10_6 : Int32) (z10_7 : Int32) => some z10_6) N (-1) 0 = some (nI ((amx (cb c) (clm M way c s) 3).getD 0)) := by
    obtain ⟨_, _, e⟩ := loopE (fun n (_ : Unit) j => f_Mo_goesTo_L25 N (rz c) (nI s) (nI way) mr (fun (z10_6 : Int32) (z10_7 : Int32) => some z10_6) n (zOpt (amx (cb c) (clm M way c s) j)) (nI j)) (fun _ _ => True) 3 (fun _ => some (zOpt (amx (cb c) (clm M way c s) 3))) (fun n _ j hj _ => by
      show ∃ x', _ ∧ f_Mo_goesTo_L25 N (rz c) (nI s) (nI way) mr _ (n + 1) _ (nI j) = _
      refine ⟨(), trivial, ?_⟩
      rw [f_Mo_goesTo_L25, if_neg (n3nle hj), t_MhasCome (by omega), b1_s]
      cases e1 : cb c j
      · rw [if_pos (by simp [tf]), nI_1, amx_f e1]
      · have hjH := hL.2.1 j hj e1
        rw [if_neg (by simp [tf]), nI_1, amx, if_pos e1]
        cases e2 : amx (cb c) (clm M way c s) j with
        | none =>
          rw [if_pos (show zOpt none = -1 from rfl)]
          rfl
        | some b =>
          obtain ⟨a1, a2, _, _⟩ := amx_some e2
          have hb := hL.2.1 b (by omega) a2
          have eb : ∀ (K : Int32 → Option Int32), (if nI way = 3 then b1 (f_Mo_isBefore N (rz c) (nI j) (nI b) (nI s) 0 mr) K else b1 (f_Mo_isBefore N (rz c) (nI j) (nI b) (nI s) (nI way) mr) K) = K (tf (decide (clm M way c s b < clm M way c s j))) := by
            intro K
            rw [hcl b, hcl j]
            by_cases q : way = 3
            · rw [if_pos (show nI way = 3 by rw [q]; rfl), show (0 : Int32) = nI 0 from rfl, tR_before hM hW hN (show 0 < 3 by omega) hL hjH hb hs, b1_s, if_pos q]
            · rw [if_neg (show ¬ nI way = 3 from fun w => q ((nI_eq (b := 3) (by omega) (by omega)).mp w)), tR_before hM hW hN (show way < 3 by omega) hL hjH hb hs, b1_s, if_neg q]
          show (if zOpt (some b) = -1 then _ else (if nI way = 3 then b1 (f_Mo_isBefore N (rz c) (nI j) (nI b) (nI s) 0 mr) _ else b1 (f_Mo_isBefore N (rz c) (nI j) (nI b) (nI s) (nI way) mr) _)) = _
          rw [if_neg (show ¬ zOpt (some b) = -1 from nI_m1 (by omega)), eb (fun r8 => (if r8 = 0 then f_Mo_goesTo_L25 N (rz c) (nI s) (nI way) mr (fun (z10_6 : Int32) (z10_7 : Int32) => some z10_6) n (zOpt (some b)) (nI (j + 1)) else f_Mo_goesTo_L25 N (rz c) (nI s) (nI way) mr (fun (z10_6 : Int32) (z10_7 : Int32) => some z10_6) n (nI j) (nI (j + 1))))]
          show _ = f_Mo_goesTo_L25 N (rz c) (nI s) (nI way) mr _ n (zOpt (if clm M way c s j ≤ clm M way c s b then some b else some j)) (nI (j + 1))
          by_cases q : clm M way c s j ≤ clm M way c s b
          · rw [if_pos q, if_pos (by simp [show ¬ clm M way c s b < clm M way c s j by omega, tf])]
          · rw [if_neg q, if_neg (by simp [show clm M way c s b < clm M way c s j by omega, tf])]
            rfl) (fun n _ _ => by
      show f_Mo_goesTo_L25 N (rz c) (nI s) (nI way) mr _ (n + 1) _ (nI 3) = _
      rw [f_Mo_goesTo_L25, if_pos n3le]) 3 N () 0 (by omega) (by omega) trivial
    obtain ⟨b, eb, _, _⟩ := amx_ex hM hE hL (clm M way c s)
    have e' : f_Mo_goesTo_L25 N (rz c) (nI s) (nI way) mr (fun (z10_6 : Int32) (z10_7 : Int32) => some z10_6) N (-1) 0 = some (zOpt (amx (cb c) (clm M way c s) 3)) := e
    rw [e', eb]
    rfl
  have hh := hl_lt c
  unfold f_Mo_goesTo gwy
  simp only [jn]
  rw [loop, t_Mheld, b1_s, hW.2.2.1]
  by_cases w3 : way = 3
  · rw [if_pos (show nI way = 3 by rw [w3]; rfl)]
    by_cases q : hl c < qO M
    · rw [if_neg (nI_ge q (by omega)), if_pos ⟨w3, q⟩]
      rfl
    · rw [if_pos (nI_le (by omega) (by omega)), if_neg (fun w => q w.2)]
  · rw [if_neg (show ¬ nI way = 3 from fun q => w3 ((nI_eq (b := 3) (by omega) (by omega)).mp q)), if_neg (fun w => w3 w.1)]
end RFARE
