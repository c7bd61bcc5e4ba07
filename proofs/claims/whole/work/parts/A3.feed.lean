/-! feed. -/
theorem ius_bv (x : Int32) {k : Nat} (hk : k < 32) : (ius x (nI k)).toBitVec = x.toBitVec >>> k := by
  show (x.toUInt32 >>> ((nI k).toUInt32 &&& Int32.toUInt32 31)).toBitVec = _
  rw [UInt32.toBitVec_shiftRight, BitVec.ushiftRight_eq', s_u k hk]
  rfl
theorem isr_bv (x : Int32) {k : Nat} (hk : k < 32) : (isr x (nI k)).toBitVec = x.toBitVec.sshiftRight k := by
  unfold isr
  rw [Int32.toBitVec_shiftRight, BitVec.sshiftRight_eq', s_l k hk]
theorem byt (x : Int32) {k : Nat} (hk : k ≤ 24) : (ius x (nI k)).toInt8 = (isr x (nI k)).toInt8 := by
  apply Int8.toBitVec_inj.mp
  rw [Int32.toBitVec_toInt8, Int32.toBitVec_toInt8, ius_bv x (by omega), isr_bv x (by omega)]
  apply BitVec.eq_of_getLsbD_eq
  intro i hi
  rw [BitVec.getLsbD_signExtend, BitVec.getLsbD_signExtend, BitVec.getLsbD_ushiftRight, BitVec.getLsbD_sshiftRight]
  have h1 : i < 32 := by omega
  have h2 : k + i < 32 := by omega
  simp [h1, h2, hi]
/-- bytes behind the text, one behind another -/
def fdm (m : Mm) (len : Nat) (f : Nat → Int32) : Nat → Mm
  | 0 => m
  | j + 1 => vI (vX (fdm m len f j) 1 (len + j) (f j)) 0 1 (nI (len + j + 1))
section FEED
variable {N : Nat} {M : Mt} {tl : Bool} {c d : Nat} {w : Option Nat} {im : Nat → Option (Nat × Nat × Option Nat)} {len : Nat} {S : St} {m mr : Mm}
theorem fdm_l (h : mI m 0 1 = nI len) (f : Nat → Int32) : ∀ j, mI (fdm m len f j) 0 1 = nI (len + j)
  | 0 => h
  | j + 1 => by
    show u2 (fdm m len f j).1 0 1 (nI (len + j + 1)) 0 1 = nI (len + (j + 1))
    rw [u2_s]
    rfl
theorem fdm_1 (f : Nat → Int32) : ∀ j a k, ¬ (a = 0 ∧ k = 1) → (fdm m len f j).1 a k = m.1 a k
  | 0, _, _, _ => rfl
  | j + 1, a, k, q => by
    show u2 (fdm m len f j).1 0 1 (nI (len + j + 1)) a k = _
    unfold u2
    rw [if_neg q]
    exact fdm_1 f j a k q
theorem fdm_2 (f : Nat → Int32) : ∀ j, (fdm m len f j).2.1 = m.2.1
  | 0 => rfl
  | j + 1 => fdm_2 f j
theorem fdm_3 (f : Nat → Int32) : ∀ j a, a ≠ 1 → (fdm m len f j).2.2.1 a = m.2.2.1 a
  | 0, _, _ => rfl
  | j + 1, a, q => by
    rw [← fdm_3 f j a q]
    funext i
    show u2 (fdm m len f j).2.2.1 1 (len + j) (f j) a i = _
    rw [u2_a _ _ _ _ q]
theorem fdm_4 (f : Nat → Int32) : ∀ j, (fdm m len f j).2.2.2 = m.2.2.2
  | 0 => rfl
  | j + 1 => fdm_4 f j
theorem fdm_x (f : Nat → Int32) (h : ∀ i, i < 400 → mX m 1 i = mX mr 1 i) : ∀ j i, i < 400 → mX (fdm m len f j) 1 i = mX (fdm mr len f j) 1 i
  | 0, i, hi => h i hi
  | j + 1, i, hi => by
    show u2 (fdm m len f j).2.2.1 1 (len + j) (f j) 1 i = u2 (fdm mr len f j).2.2.1 1 (len + j) (f j) 1 i
    rw [u2_eq, u2_eq]
    split
    · rfl
    · exact fdm_x f h j i hi
/-- the byte of a number, by place -/
def byv (x : Int32) (j : Nat) : Int32 := ((isr x (nI (24 - 8 * (j % 4)))).toInt8.toInt32).toInt8.toInt32
theorem t_add (hN : 1000000 ≤ N) {x : Int32} {f : Nat → Int32} (hm : mI m 0 1 = nI len) {j : Nat} (hj : len + 4 * j + 4 ≤ 400) (hf : ∀ i, i < 4 → f (4 * j + i) = byv x i) : f_SC_addBytes N S x (fdm m len f (4 * j)) = some (fdm m len f (4 * j + 4)) := by
  have step : ∀ (i n : Nat), i < 4 → f_SC_addBytes_L3 N S x (fun (z4_2 : Int32) (m4 : Mm) => some m4) (n + 1) (nI (24 - 8 * i)) (fdm m len f (4 * j + i)) = f_SC_addBytes_L3 N S x (fun (z4_2 : Int32) (m4 : Mm) => some m4) n (nI (24 - 8 * i) + (-8)) (fdm m len f (4 * j + (i + 1))) := by
    intro i n hi
    have hl : mI (fdm m len f (4 * j + i)) 0 1 = nI (len + (4 * j + i)) := fdm_l hm f _
    have hix : ix (nI (len + (4 * j + i))) 400 := nI_in (by omega) (by omega)
    have e : ((ius x (nI (24 - 8 * i))).toInt8.toInt32).toInt8.toInt32 = f (4 * j + i) := by
      rw [hf i hi, byt x (by omega)]
      unfold byv
      rw [Nat.mod_eq_of_lt hi]
    rw [f_SC_addBytes_L3, if_neg (nI_pos (by omega)), hl, if_neg (show ¬ (400 : Int32) ≤ nI (len + (4 * j + i)) from nI_ge (b := 400) (by omega) (by omega)), ck_t hix, nI_clamp (by omega), e, nI_1]
    rfl
  obtain ⟨n, hn⟩ : ∃ n, N = n + 1 + 1 + 1 + 1 + 1 := ⟨N - 5, by omega⟩
  have go : f_SC_addBytes_L3 N S x (fun (z4_2 : Int32) (m4 : Mm) => some m4) (n + 1 + 1 + 1 + 1 + 1) (nI 24) (fdm m len f (4 * j)) = some (fdm m len f (4 * j + 4)) := by
    have s0 := step 0 (n + 1 + 1 + 1 + 1) (by omega)
    have s1 := step 1 (n + 1 + 1 + 1) (by omega)
    have s2 := step 2 (n + 1 + 1) (by omega)
    have s3 := step 3 (n + 1) (by omega)
    rw [show nI (24 - 8 * 0) + (-8) = nI (24 - 8 * 1) by decide] at s0
    rw [show nI (24 - 8 * 1) + (-8) = nI (24 - 8 * 2) by decide] at s1
    rw [show nI (24 - 8 * 2) + (-8) = nI (24 - 8 * 3) by decide] at s2
    rw [show nI (24 - 8 * 3) + (-8) = -8 by decide] at s3
    refine s0.trans (s1.trans (s2.trans (s3.trans ?_)))
    rw [f_SC_addBytes_L3, if_pos (by decide)]
  unfold f_SC_addBytes
  rw [← hn] at go
  exact go
theorem st_feed (hN : 1000000 ≤ N) (h : REL tl M c d w im len S m mr) (x1 x2 x3 x4 x5 : Int32) : ∃ r m' mr' len', f_SC_feed N S x1 x2 x3 x4 x5 m = some (r, m') ∧ f_Mo_feed N x1 x2 x3 x4 x5 mr = some (r, mr') ∧ REL tl M c d w im len' S m' mr' := by
  obtain ⟨t1, t2, t3, t4⟩ := h.2.2.2.2.1
  have e20 : nI len + 20 = nI (len + 20) := nI_add len 20
  by_cases q : len + 20 ≤ 400
  · generalize hwd : (fun j => if j < 4 then x1 else if j < 8 then x2 else if j < 12 then x3 else if j < 16 then x4 else x5 : Nat → Int32) = wd
    generalize hf : (fun j => byv (wd j) j) = f
    have hfe : ∀ k i, i < 4 → f (4 * k + i) = byv (wd (4 * k + i)) i := fun k i hi => by
      rw [← hf]
      show byv (wd (4 * k + i)) (4 * k + i) = _
      unfold byv
      rw [show (4 * k + i) % 4 = i % 4 by omega]
    have w1 : ∀ i, i < 4 → wd (4 * 0 + i) = x1 := fun i hi => by rw [← hwd]; exact if_pos (by omega)
    have w2 : ∀ i, i < 4 → wd (4 * 1 + i) = x2 := fun i hi => by
      rw [← hwd]
      show (if 4 * 1 + i < 4 then x1 else if 4 * 1 + i < 8 then x2 else _) = _
      rw [if_neg (by omega), if_pos (by omega)]
    have w3 : ∀ i, i < 4 → wd (4 * 2 + i) = x3 := fun i hi => by
      rw [← hwd]
      show (if 4 * 2 + i < 4 then x1 else if 4 * 2 + i < 8 then x2 else if 4 * 2 + i < 12 then x3 else _) = _
      rw [if_neg (by omega), if_neg (by omega), if_pos (by omega)]
    have w4 : ∀ i, i < 4 → wd (4 * 3 + i) = x4 := fun i hi => by
      rw [← hwd]
      show (if 4 * 3 + i < 4 then x1 else if 4 * 3 + i < 8 then x2 else if 4 * 3 + i < 12 then x3 else if 4 * 3 + i < 16 then x4 else x5) = _
      rw [if_neg (by omega), if_neg (by omega), if_neg (by omega), if_pos (by omega)]
    have w5 : ∀ i, i < 4 → wd (4 * 4 + i) = x5 := fun i hi => by
      rw [← hwd]
      show (if 4 * 4 + i < 4 then x1 else if 4 * 4 + i < 8 then x2 else if 4 * 4 + i < 12 then x3 else if 4 * 4 + i < 16 then x4 else x5) = _
      rw [if_neg (by omega), if_neg (by omega), if_neg (by omega), if_neg (by omega)]
    have b1' := t_add (N := N) (S := S) (x := x1) (f := f) (j := 0) hN t2 (by omega) (fun i hi => by rw [hfe 0 i hi, w1 i hi])
    have b2' := t_add (N := N) (S := S) (x := x2) (f := f) (j := 1) hN t2 (by omega) (fun i hi => by rw [hfe 1 i hi, w2 i hi])
    have b3' := t_add (N := N) (S := S) (x := x3) (f := f) (j := 2) hN t2 (by omega) (fun i hi => by rw [hfe 2 i hi, w3 i hi])
    have b4' := t_add (N := N) (S := S) (x := x4) (f := f) (j := 3) hN t2 (by omega) (fun i hi => by rw [hfe 3 i hi, w4 i hi])
    have b5' := t_add (N := N) (S := S) (x := x5) (f := f) (j := 4) hN t2 (by omega) (fun i hi => by rw [hfe 4 i hi, w5 i hi])
    refine ⟨nI (len + 20), fdm m len f 20, fdm mr len f 20, len + 20, ?_, ?_, REL_txt h (fdm_1 f 20) (fdm_2 f 20) (fdm_3 f 20) (fdm_4 f 20) (fdm_1 f 20) (fdm_2 f 20) (fdm_3 f 20) (fdm_4 f 20) ⟨q, fdm_l t2 f 20, fdm_l t3 f 20, fdm_x f t4 20⟩⟩
    · have b1'' : f_SC_addBytes N S x1 m = some (fdm m len f 4) := b1'
      have b2'' : f_SC_addBytes N S x2 (fdm m len f 4) = some (fdm m len f 8) := b2'
      have b3'' : f_SC_addBytes N S x3 (fdm m len f 8) = some (fdm m len f 12) := b3'
      have b4'' : f_SC_addBytes N S x4 (fdm m len f 12) = some (fdm m len f 16) := b4'
      have b5'' : f_SC_addBytes N S x5 (fdm m len f 16) = some (fdm m len f 20) := b5'
      unfold f_SC_feed
      rw [t2, e20, if_pos (show nI (len + 20) ≤ 400 from nI_le (b := 400) q (by omega)), b1'', b3_s, b2'', b3_s, b3'', b3_s, b4'', b3_s, b5'', b3_s, fdm_l t2 f 20]
    · unfold f_Mo_feed
      rw [t3, e20, if_pos (show nI (len + 20) ≤ 400 from nI_le (b := 400) q (by omega))]
      obtain ⟨_, _, e⟩ := loopE (fun n (_ : Unit) j => f_Mo_feed_L18 N x1 x2 x3 x4 x5 (fun (z9_6 : Int32) (m9 : Mm) => some ((mI m9 0 1), m9)) n (nI j) (fdm mr len f j)) (fun _ _ => True) 20 (fun _ => some (nI (len + 20), fdm mr len f 20)) (fun n _ j hj _ => by
        show ∃ x', _ ∧ f_Mo_feed_L18 N x1 x2 x3 x4 x5 _ (n + 1) (nI j) (fdm mr len f j) = _
        refine ⟨(), trivial, ?_⟩
        have hl : mI (fdm mr len f j) 0 1 = nI (len + j) := fdm_l t3 f _
        have hix : ix (nI (len + j)) 400 := nI_in (by omega) (by omega)
        have e4 : (24 : Int32) - 8 * irm (nI j) 4 = nI (24 - 8 * (j % 4)) := by
          have a1 : irm (nI j) 4 = nI (j % 4) := pk_rem (d := 4) (by omega) (by omega) (by omega)
          rw [a1, show (8 : Int32) = nI 8 from rfl, show (24 : Int32) = nI 24 from rfl, pk_mul, pk_sub (by omega)]
        have sel : ∀ (J : Int32 → Option (Int32 × Mm)), (if 4 ≤ nI j then (if 8 ≤ nI j then (if 12 ≤ nI j then (if 16 ≤ nI j then J x5 else J x4) else J x3) else J x2) else J x1) = J (wd j) := by
          intro J
          have c4 : (4 : Int32) ≤ nI j ↔ 4 ≤ j := nI_leI (a := 4) (by omega) (by omega)
          have c8 : (8 : Int32) ≤ nI j ↔ 8 ≤ j := nI_leI (a := 8) (by omega) (by omega)
          have c12 : (12 : Int32) ≤ nI j ↔ 12 ≤ j := nI_leI (a := 12) (by omega) (by omega)
          have c16 : (16 : Int32) ≤ nI j ↔ 16 ≤ j := nI_leI (a := 16) (by omega) (by omega)
          rw [← hwd]
          simp only [c4, c8, c12, c16]
          by_cases z1 : 4 ≤ j
          · rw [if_pos z1, if_neg (show ¬ j < 4 by omega)]
            by_cases z2 : 8 ≤ j
            · rw [if_pos z2, if_neg (show ¬ j < 8 by omega)]
              by_cases z3 : 12 ≤ j
              · rw [if_pos z3, if_neg (show ¬ j < 12 by omega)]
                by_cases z4 : 16 ≤ j
                · rw [if_pos z4, if_neg (show ¬ j < 16 by omega)]
                · rw [if_neg z4, if_pos (show j < 16 by omega)]
              · rw [if_neg z3, if_pos (show j < 12 by omega)]
            · rw [if_neg z2, if_pos (show j < 8 by omega)]
          · rw [if_neg z1, if_pos (show j < 4 by omega)]
        rw [f_Mo_feed_L18, if_neg (show ¬ (20 : Int32) ≤ nI j from nI_ge (b := 20) hj (by omega))]
        simp only [jn]
        rw [sel (fun s3 => ck (ix (mI (fdm mr len f j) 0 1) 400) (f_Mo_feed_L18 N x1 x2 x3 x4 x5 (fun (z9_6 : Int32) (m9 : Mm) => some ((mI m9 0 1), m9)) n (nI j + 1) (vI (vX (fdm mr len f j) 1 (mI (fdm mr len f j) 0 1).toNatClampNeg (((isr s3 (24 - 8 * irm (nI j) 4)).toInt8.toInt32).toInt8.toInt32)) 0 1 (mI (fdm mr len f j) 0 1 + 1)))), hl, ck_t hix, nI_clamp (by omega), e4, nI_1, nI_1]
        have ef : f j = ((isr (wd j) (nI (24 - 8 * (j % 4)))).toInt8.toInt32).toInt8.toInt32 := by rw [← hf]; rfl
        rw [← ef]
        rfl) (fun n _ _ => by
        show f_Mo_feed_L18 N x1 x2 x3 x4 x5 _ (n + 1) (nI 20) (fdm mr len f 20) = _
        rw [f_Mo_feed_L18, if_pos (show (20 : Int32) ≤ nI 20 from nI_le (a := 20) (Nat.le_refl _) (by omega)), fdm_l t3 f 20]) 20 N () 0 (by omega) (by omega) trivial
      exact e
  · refine ⟨-1, m, mr, len, ?_, ?_, h⟩
    · unfold f_SC_feed
      rw [t2, e20, if_neg (show ¬ nI (len + 20) ≤ 400 from nI_ge (a := 400) (by omega) (by omega))]
    · unfold f_Mo_feed
      rw [t3, e20, if_neg (show ¬ nI (len + 20) ≤ 400 from nI_ge (a := 400) (by omega) (by omega))]
end FEED
