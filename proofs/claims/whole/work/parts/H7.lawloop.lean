/-! THE LAW'S LOOP. -/
theorem lt6 {L k : Nat} (hL : L ≤ 3072) (hk : 6 * k ≤ L) (q : ¬ Int32.ofNat L - 6 < nI (6 * k)) : 6 * k + 6 ≤ L := by
  by_cases h6 : 6 ≤ L
  · have h1 := nI_add (L - 6) 6
    rw [Nat.sub_add_cancel h6] at h1
    have e : Int32.ofNat L - 6 = nI (L - 6) := by
      show nI L - nI 6 = nI (L - 6)
      rw [← h1]
      exact Int32.add_sub_cancel _ _
    rw [e] at q
    by_cases h7 : L - 6 < 6 * k
    · exact absurd (nI_lt h7 (by omega)) q
    · omega
  · have h0 : k = 0 := by omega
    rw [h0] at q
    have h1 : ∀ n, n < 6 → Int32.ofNat n - 6 < nI 0 := by decide
    exact absurd (h1 L (by omega)) q
section LAWLOOP
variable {p : Program} {l : Launch} {e : Jvm.Env} {s : State} {m : MethodId} {below : List Frame} {meth : Method} {c : Code} {b L : Nat} {xs : Nat → Int32} {g : Gr}
variable {Sr S : St} {mm mr : Mm} {k : Nat} {x : Int32}
theorem lp_in (hL : L ≤ 3072) (hk : 6 * k + 6 ≤ L) {j : Nat} (hj : j < 6) : vp_in (nI (6 * k) + nI j) L := by
  rw [nI_add]
  exact nI_in (by omega) (by omega)
set_option maxRecDepth 20000 in
theorem lp_850 (K : LwG p s m meth c b L xs g) {w1 w2 : Wd} (h : LWp p l e s m below meth c b g 18 (LV (nI (6 * (k + 1)))) [] w1 w2) : LWp p l e s m below meth c b g 850 (LV (nI (6 * k))) [] w1 w2 := by
  have e1 : nI (6 * k) + 6 = nI (6 * (k + 1)) := nI_add (6 * k) 6
  rw [← e1] at h
  refine lw_sn K 2 (t := (18, [(3, .int (nI (6 * k) + 6)), (0, .retAddr 1000), (1, .ref 0), (2, .ref 1)], [])) rfl ?_
  refine lw_sub (LV (nI (6 * k) + 6)) (fun q hq => ?_) h
  unfold LV at hq
  simp only [List.mem_cons, List.not_mem_nil, or_false] at hq ⊢
  rcases hq with q | q | q | q
  · exact Or.inr (Or.inl q)
  · exact Or.inr (Or.inr (Or.inl q))
  · exact Or.inr (Or.inr (Or.inr q))
  · exact Or.inl q
set_option maxRecDepth 20000 in
set_option maxHeartbeats 4000000 in
theorem lp_sw (K : LwG p s m meth c b L xs g) (hR : Rfx Sr) (hI : Inw k S mm mr) (hk : k < 1000) (hin : vp_in (x + 1) L ∧ vp_in (x + 2) L ∧ vp_in (x + 3) L ∧ vp_in (x + 4) L ∧ vp_in (x + 5) L) (nx : ∀ (S1 : St) (m1 mr1 : Mm), Inw (k + 1) S1 m1 mr1 → LWp p l e s m below meth c b g 850 (LV x) [] (m1, S1) (mr1, Sr)) (j : Nat) (hj : j < 32) : LWp p l e s m below meth c b g 33 (LV x) [.int (nI j)] (mm, S) (mr, Sr) := by
  have hd : Inw (k + 1) S mm mr := by
    obtain ⟨⟨tl, M, c1, d1, w1, im, len, h, h0⟩, h1, h2⟩ := hI
    exact ⟨⟨tl, M, c1, d1, w1, im, len, h, by omega⟩, by omega, h2⟩
  match j, hj with
  | 0, _ => exact lw_s K (t := (136, LV x, [])) rfl (sw_i (pc := 33) (o := 103) ⟨by decide, by simp⟩ (by decide) (by decide)) (cs_feed K hR hI hk hin nx)
  | 1, _ => exact lw_s K (t := (199, LV x, [])) rfl (sw_i (pc := 33) (o := 166) ⟨by decide, by simp⟩ (by decide) (by decide)) (cs_end K hR hI hk hin nx)
  | 2, _ => exact lw_s K (t := (222, LV x, [])) rfl (sw_i (pc := 33) (o := 189) ⟨by decide, by simp⟩ (by decide) (by decide)) (cs_fault K hR hI hk hin nx)
  | 3, _ => exact lw_s K (t := (235, LV x, [])) rfl (sw_i (pc := 33) (o := 202) ⟨by decide, by simp⟩ (by decide) (by decide)) (cs_matter K hR hI hk hin nx)
  | 4, _ => exact lw_s K (t := (248, LV x, [])) rfl (sw_i (pc := 33) (o := 215) ⟨by decide, by simp⟩ (by decide) (by decide)) (cs_heir K hR hI hk hin nx)
  | 5, _ => exact lw_s K (t := (281, LV x, [])) rfl (sw_i (pc := 33) (o := 248) ⟨by decide, by simp⟩ (by decide) (by decide)) (cs_alt K hR hI hk hin nx)
  | 6, _ => exact lw_s K (t := (324, LV x, [])) rfl (sw_i (pc := 33) (o := 291) ⟨by decide, by simp⟩ (by decide) (by decide)) (cs_come K hR hI hk hin nx)
  | 7, _ => exact lw_s K (t := (347, LV x, [])) rfl (sw_i (pc := 33) (o := 314) ⟨by decide, by simp⟩ (by decide) (by decide)) (cs_give K hR hI hk hin nx)
  | 8, _ => exact lw_s K (t := (370, LV x, [])) rfl (sw_i (pc := 33) (o := 337) ⟨by decide, by simp⟩ (by decide) (by decide)) (cs_reached K hR hI hk hin nx)
  | 9, _ => exact lw_s K (t := (393, LV x, [])) rfl (sw_i (pc := 33) (o := 360) ⟨by decide, by simp⟩ (by decide) (by decide)) (cs_sure K hR hI hk hin nx)
  | 10, _ => exact lw_s K (t := (442, LV x, [])) rfl (sw_i (pc := 33) (o := 409) ⟨by decide, by simp⟩ (by decide) (by decide)) (cs_best K hR hI hk hin nx)
  | 11, _ => exact lw_s K (t := (491, LV x, [])) rfl (sw_i (pc := 33) (o := 458) ⟨by decide, by simp⟩ (by decide) (by decide)) (cs_proof K hR hI hk hin nx)
  | 12, _ => exact lw_s K (t := (524, LV x, [])) rfl (sw_i (pc := 33) (o := 491) ⟨by decide, by simp⟩ (by decide) (by decide)) (cs_known K hR hI hk hin nx)
  | 13, _ => exact lw_s K (t := (557, LV x, [])) rfl (sw_i (pc := 33) (o := 524) ⟨by decide, by simp⟩ (by decide) (by decide)) (cs_cost K hR hI hk hin nx)
  | 14, _ => exact lw_s K (t := (580, LV x, [])) rfl (sw_i (pc := 33) (o := 547) ⟨by decide, by simp⟩ (by decide) (by decide)) (cs_fare K hR hI hk hin nx)
  | 15, _ => exact lw_s K (t := (639, LV x, [])) rfl (sw_i (pc := 33) (o := 606) ⟨by decide, by simp⟩ (by decide) (by decide)) (cs_mended K hR hI hk hin nx)
  | 16, _ => exact lw_s K (t := (672, LV x, [])) rfl (sw_i (pc := 33) (o := 639) ⟨by decide, by simp⟩ (by decide) (by decide)) (cs_paper K hR hI hk hin nx)
  | 17, _ => exact lw_s K (t := (705, LV x, [])) rfl (sw_i (pc := 33) (o := 672) ⟨by decide, by simp⟩ (by decide) (by decide)) (cs_judge K hR hI hk hin nx)
  | 18, _ => exact lw_s K (t := (738, LV x, [])) rfl (sw_i (pc := 33) (o := 705) ⟨by decide, by simp⟩ (by decide) (by decide)) (cs_judged K hR hI hk hin nx)
  | 19, _ => exact lw_s K (t := (781, LV x, [])) rfl (sw_i (pc := 33) (o := 748) ⟨by decide, by simp⟩ (by decide) (by decide)) (cs_image K hR hI hk hin nx)
  | 20, _ => exact lw_s K (t := (804, LV x, [])) rfl (sw_i (pc := 33) (o := 771) ⟨by decide, by simp⟩ (by decide) (by decide)) (cs_on K hR hI hk hin nx)
  | 21, _ => exact lw_s K (t := (827, LV x, [])) rfl (sw_i (pc := 33) (o := 794) ⟨by decide, by simp⟩ (by decide) (by decide)) (cs_count K hR hI hk hin nx)
  | 22, _ => exact lw_s K (t := (850, LV x, [])) rfl (sw_d (pc := 33) ⟨by decide, by simp⟩ (by decide)) (nx S mm mr hd)
  | 23, _ => exact lw_s K (t := (850, LV x, [])) rfl (sw_d (pc := 33) ⟨by decide, by simp⟩ (by decide)) (nx S mm mr hd)
  | 24, _ => exact lw_s K (t := (850, LV x, [])) rfl (sw_d (pc := 33) ⟨by decide, by simp⟩ (by decide)) (nx S mm mr hd)
  | 25, _ => exact lw_s K (t := (850, LV x, [])) rfl (sw_d (pc := 33) ⟨by decide, by simp⟩ (by decide)) (nx S mm mr hd)
  | 26, _ => exact lw_s K (t := (850, LV x, [])) rfl (sw_d (pc := 33) ⟨by decide, by simp⟩ (by decide)) (nx S mm mr hd)
  | 27, _ => exact lw_s K (t := (850, LV x, [])) rfl (sw_d (pc := 33) ⟨by decide, by simp⟩ (by decide)) (nx S mm mr hd)
  | 28, _ => exact lw_s K (t := (850, LV x, [])) rfl (sw_d (pc := 33) ⟨by decide, by simp⟩ (by decide)) (nx S mm mr hd)
  | 29, _ => exact lw_s K (t := (850, LV x, [])) rfl (sw_d (pc := 33) ⟨by decide, by simp⟩ (by decide)) (nx S mm mr hd)
  | 30, _ => exact lw_s K (t := (850, LV x, [])) rfl (sw_d (pc := 33) ⟨by decide, by simp⟩ (by decide)) (nx S mm mr hd)
  | 31, _ => exact lw_s K (t := (850, LV x, [])) rfl (sw_d (pc := 33) ⟨by decide, by simp⟩ (by decide)) (nx S mm mr hd)
  | n + 32, h => omega
set_option maxRecDepth 20000 in
theorem lp_all (K : LwG p s m meth c b L xs g) (hR : Rfx Sr) : ∀ (n k : Nat) (S : St) (mm mr : Mm), L < 6 * k + 6 * n → 6 * k ≤ L → Inw k S mm mr → LWp p l e s m below meth c b g 18 (LV (nI (6 * k))) [] (mm, S) (mr, Sr) := by
  intro n
  induction n with
  | zero => intro k S mm mr h1 h2; omega
  | succ n ih =>
    intro k S mm mr h1 h2 hI
    have hL : L ≤ 3072 := K.2.1
    refine lw_sn K 2 (t := (20, LV (nI (6 * k)), [.retAddr 1000, .int (nI (6 * k))])) rfl ?_
    refine lw_len K rfl ?_
    refine lw_sn K 2 (t := (24, LV (nI (6 * k)), [.int (Int32.ofNat L - 6), .int (nI (6 * k))])) rfl ?_
    by_cases q : Int32.ofNat L - 6 < nI (6 * k)
    · refine lw_jt K (a := (856, LV (nI (6 * k)), [])) (a' := (27, LV (nI (6 * k)), [])) rfl rfl q ?_
      refine lw_sn K 1 (t := (857, LV (nI (6 * k)), [.int 1])) rfl ?_
      exact lw_end K rfl (hI.rm2 (by omega) hR mr).1 (hI.rm2 (by omega) hR mr).2
    · have h6 := lt6 hL h2 q
      refine lw_jf K (a := (856, LV (nI (6 * k)), [])) (a' := (27, LV (nI (6 * k)), [])) rfl rfl q ?_
      refine lw_sn K 2 (t := (29, LV (nI (6 * k)), [.int (nI (6 * k)), .retAddr 1000])) rfl ?_
      refine lw_ld K rfl (nI_in (by omega) (by omega)) ?_
      refine lw_sn K 2 (t := (33, LV (nI (6 * k)), [.int (xs (nI (6 * k)).toNatClampNeg &&& 31)])) rfl ?_
      rw [pk_and (xs (nI (6 * k)).toNatClampNeg) (m := 31) 5 (by decide)]
      exact lp_sw K hR hI (by omega) ⟨lp_in hL h6 (j := 1) (by omega), lp_in hL h6 (j := 2) (by omega), lp_in hL h6 (j := 3) (by omega), lp_in hL h6 (j := 4) (by omega), lp_in hL h6 (j := 5) (by omega)⟩ (fun S1 m1 mr1 hI1 => lp_850 K (ih (k + 1) S1 m1 mr1 (by omega) (by omega) hI1)) _ (Nat.mod_lt _ (by decide))
end LAWLOOP
