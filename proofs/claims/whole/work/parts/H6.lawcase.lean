/-! THE LAW'S CASES. -/
theorem Inw.rm {k : Nat} {S : St} {m mr : Mm} (h : Inw k S m mr) (hk : k ≤ 1000) : wN ((m, S) : Wd) + 26 ≤ 600000 ∧ wS ((m, S) : Wd) + 1372122 ≤ 7302250 := by
  obtain ⟨h1, h2⟩ := h.room
  have e1 : wN ((m, S) : Wd) = S.2.2.2.2.1 := rfl
  have e2 : wS ((m, S) : Wd) = S.2.2.2.2.2 := rfl
  omega
theorem Inw.rm2 {k : Nat} {S Sr : St} {m mr : Mm} (h : Inw k S m mr) (hk : k ≤ 1000) (hR : Rfx Sr) (mq : Mm) : wN ((m, S) : Wd) + wN ((mq, Sr) : Wd) ≤ 600000 ∧ wS ((m, S) : Wd) + wS ((mq, Sr) : Wd) ≤ 7302250 := by
  have h1 := h.rm hk
  have e1 : wN ((mq, Sr) : Wd) = 26 := hR.2.1
  have e2 : wS ((mq, Sr) : Wd) = 1372122 := hR.2.2.1
  omega
section LAWCASE
variable {p : Program} {l : Launch} {e : Jvm.Env} {s : State} {m : MethodId} {below : List Frame} {meth : Method} {c : Code} {b L : Nat} {xs : Nat → Int32} {g : Gr}
variable {Sr S : St} {mm mr : Mm} {k : Nat} {x : Int32}
set_option maxRecDepth 20000 in
set_option maxHeartbeats 4000000 in
theorem cs_feed (K : LwG p s m meth c b L xs g) (hR : Rfx Sr) (hI : Inw k S mm mr) (hk : k < 1000) (hin : vp_in (x + 1) L ∧ vp_in (x + 2) L ∧ vp_in (x + 3) L ∧ vp_in (x + 4) L ∧ vp_in (x + 5) L) (nx : ∀ (S1 : St) (m1 mr1 : Mm), Inw (k + 1) S1 m1 mr1 → LWp p l e s m below meth c b g 850 (LV x) [] (m1, S1) (mr1, Sr)) : LWp p l e s m below meth c b g 136 (LV x) [] (mm, S) (mr, Sr) := by
  obtain ⟨v1, v2, v3, v4, v5⟩ := hin
  obtain ⟨r, m1, S1, mr1, e1, e2, hI1⟩ := bo_feed (xs := xs) (L := L) hR.1 hI hk (xs (x + 1).toNatClampNeg) (xs (x + 2).toNatClampNeg) (xs (x + 3).toNatClampNeg) (xs (x + 4).toNatClampNeg) (xs (x + 5).toNatClampNeg)
  refine lw_sn K 1 (t := (137, LV x, [.ref 0])) rfl ?_
  refine lw_arg K (j := 1) rfl rfl v1 ?_
  refine lw_arg K (j := 2) rfl rfl v2 ?_
  refine lw_arg K (j := 3) rfl rfl v3 ?_
  refine lw_arg K (j := 4) rfl rfl v4 ?_
  refine lw_arg K (j := 5) rfl rfl v5 ?_
  refine lw_c1 K (i := 13) (m2 := 13) (is := [xs (x + 1).toNatClampNeg, xs (x + 2).toNatClampNeg, xs (x + 3).toNatClampNeg, xs (x + 4).toNatClampNeg, xs (x + 5).toNatClampNeg]) (w1' := (m1, S1)) rfl rfl rfl e1 (hI.sh.1.k 0 rfl _) (hI1.rm2 (by omega) hR mr).1 (hI1.rm2 (by omega) hR mr).2 ?_
  refine lw_sn K 1 (t := (166, LV x, [.ref 1, .int r])) rfl ?_
  refine lw_arg K (j := 1) rfl rfl v1 ?_
  refine lw_arg K (j := 2) rfl rfl v2 ?_
  refine lw_arg K (j := 3) rfl rfl v3 ?_
  refine lw_arg K (j := 4) rfl rfl v4 ?_
  refine lw_arg K (j := 5) rfl rfl v5 ?_
  refine lw_c2 K hR (i := 17) (m2 := 144) (is := [xs (x + 1).toNatClampNeg, xs (x + 2).toNatClampNeg, xs (x + 3).toNatClampNeg, xs (x + 4).toNatClampNeg, xs (x + 5).toNatClampNeg]) (mr' := mr1) rfl rfl rfl e2 (hR.1.k 0 rfl _) (hI1.rm (by omega)).1 (hI1.rm (by omega)).2 ?_
  exact lw_jt K (q := r = r) (a := (850, LV x, [])) (a' := (197, LV x, [])) rfl rfl rfl (nx S1 m1 mr1 hI1)
set_option maxRecDepth 20000 in
set_option maxHeartbeats 4000000 in
theorem cs_end (K : LwG p s m meth c b L xs g) (hR : Rfx Sr) (hI : Inw k S mm mr) (hk : k < 1000) (hin : vp_in (x + 1) L ∧ vp_in (x + 2) L ∧ vp_in (x + 3) L ∧ vp_in (x + 4) L ∧ vp_in (x + 5) L) (nx : ∀ (S1 : St) (m1 mr1 : Mm), Inw (k + 1) S1 m1 mr1 → LWp p l e s m below meth c b g 850 (LV x) [] (m1, S1) (mr1, Sr)) : LWp p l e s m below meth c b g 199 (LV x) [] (mm, S) (mr, Sr) := by
  obtain ⟨v1, v2, v3, v4, v5⟩ := hin
  obtain ⟨r, m1, S1, mr1, e1, e2, hI1⟩ := bo_end (xs := xs) (L := L) hR.1 hI hk (xs (x + 1).toNatClampNeg)
  refine lw_sn K 1 (t := (200, LV x, [.ref 0])) rfl ?_
  refine lw_arg K (j := 1) rfl rfl v1 ?_
  refine lw_c1 K (i := 18) (m2 := 15) (is := [xs (x + 1).toNatClampNeg]) (w1' := (m1, S1)) rfl rfl rfl e1 (hI.sh.1.k 0 rfl _) (hI1.rm2 (by omega) hR mr).1 (hI1.rm2 (by omega) hR mr).2 ?_
  refine lw_sn K 1 (t := (209, LV x, [.ref 1, .int r])) rfl ?_
  refine lw_arg K (j := 1) rfl rfl v1 ?_
  refine lw_c2 K hR (i := 22) (m2 := 145) (is := [xs (x + 1).toNatClampNeg]) (mr' := mr1) rfl rfl rfl e2 (hR.1.k 0 rfl _) (hI1.rm (by omega)).1 (hI1.rm (by omega)).2 ?_
  exact lw_jt K (q := r = r) (a := (850, LV x, [])) (a' := (220, LV x, [])) rfl rfl rfl (nx S1 m1 mr1 hI1)
set_option maxRecDepth 20000 in
set_option maxHeartbeats 4000000 in
theorem cs_fault (K : LwG p s m meth c b L xs g) (hR : Rfx Sr) (hI : Inw k S mm mr) (hk : k < 1000) (hin : vp_in (x + 1) L ∧ vp_in (x + 2) L ∧ vp_in (x + 3) L ∧ vp_in (x + 4) L ∧ vp_in (x + 5) L) (nx : ∀ (S1 : St) (m1 mr1 : Mm), Inw (k + 1) S1 m1 mr1 → LWp p l e s m below meth c b g 850 (LV x) [] (m1, S1) (mr1, Sr)) : LWp p l e s m below meth c b g 222 (LV x) [] (mm, S) (mr, Sr) := by
  obtain ⟨v1, v2, v3, v4, v5⟩ := hin
  obtain ⟨r, m1, S1, mr1, e1, e2, hI1⟩ := bo_fault (xs := xs) (L := L) hR.1 hI hk 
  refine lw_sn K 1 (t := (223, LV x, [.ref 0])) rfl ?_
  refine lw_c1 K (i := 23) (m2 := 16) (is := []) (w1' := (m1, S1)) rfl rfl rfl e1 (hI.sh.1.k 0 rfl _) (hI1.rm2 (by omega) hR mr).1 (hI1.rm2 (by omega) hR mr).2 ?_
  refine lw_sn K 1 (t := (227, LV x, [.ref 1, .int r])) rfl ?_
  refine lw_c2 K hR (i := 27) (m2 := 147) (is := []) (mr' := mr1) rfl rfl rfl e2 (hR.1.k 0 rfl _) (hI1.rm (by omega)).1 (hI1.rm (by omega)).2 ?_
  exact lw_jt K (q := r = r) (a := (850, LV x, [])) (a' := (233, LV x, [])) rfl rfl rfl (nx S1 m1 mr1 hI1)
set_option maxRecDepth 20000 in
set_option maxHeartbeats 4000000 in
theorem cs_matter (K : LwG p s m meth c b L xs g) (hR : Rfx Sr) (hI : Inw k S mm mr) (hk : k < 1000) (hin : vp_in (x + 1) L ∧ vp_in (x + 2) L ∧ vp_in (x + 3) L ∧ vp_in (x + 4) L ∧ vp_in (x + 5) L) (nx : ∀ (S1 : St) (m1 mr1 : Mm), Inw (k + 1) S1 m1 mr1 → LWp p l e s m below meth c b g 850 (LV x) [] (m1, S1) (mr1, Sr)) : LWp p l e s m below meth c b g 235 (LV x) [] (mm, S) (mr, Sr) := by
  obtain ⟨v1, v2, v3, v4, v5⟩ := hin
  obtain ⟨r, m1, S1, mr1, e1, e2, hI1⟩ := bo_matter (xs := xs) (L := L) hR.1 hI hk 
  refine lw_sn K 1 (t := (236, LV x, [.ref 0])) rfl ?_
  refine lw_c1 K (i := 28) (m2 := 42) (is := []) (w1' := (m1, S1)) rfl rfl rfl e1 (hI.sh.1.k 0 rfl _) (hI1.rm2 (by omega) hR mr).1 (hI1.rm2 (by omega) hR mr).2 ?_
  refine lw_sn K 1 (t := (240, LV x, [.ref 1, .int r])) rfl ?_
  refine lw_c2 K hR (i := 31) (m2 := 169) (is := []) (mr' := mr1) rfl rfl rfl e2 (hR.1.k 0 rfl _) (hI1.rm (by omega)).1 (hI1.rm (by omega)).2 ?_
  exact lw_jt K (q := r = r) (a := (850, LV x, [])) (a' := (246, LV x, [])) rfl rfl rfl (nx S1 m1 mr1 hI1)
set_option maxRecDepth 20000 in
set_option maxHeartbeats 4000000 in
theorem cs_heir (K : LwG p s m meth c b L xs g) (hR : Rfx Sr) (hI : Inw k S mm mr) (hk : k < 1000) (hin : vp_in (x + 1) L ∧ vp_in (x + 2) L ∧ vp_in (x + 3) L ∧ vp_in (x + 4) L ∧ vp_in (x + 5) L) (nx : ∀ (S1 : St) (m1 mr1 : Mm), Inw (k + 1) S1 m1 mr1 → LWp p l e s m below meth c b g 850 (LV x) [] (m1, S1) (mr1, Sr)) : LWp p l e s m below meth c b g 248 (LV x) [] (mm, S) (mr, Sr) := by
  obtain ⟨v1, v2, v3, v4, v5⟩ := hin
  obtain ⟨r, m1, S1, mr1, e1, e2, hI1⟩ := bo_heir (xs := xs) (L := L) hR.1 hI hk (xs (x + 1).toNatClampNeg) (xs (x + 2).toNatClampNeg)
  refine lw_sn K 1 (t := (249, LV x, [.ref 0])) rfl ?_
  refine lw_arg K (j := 1) rfl rfl v1 ?_
  refine lw_arg K (j := 2) rfl rfl v2 ?_
  refine lw_c1 K (i := 32) (m2 := 52) (is := [xs (x + 1).toNatClampNeg, xs (x + 2).toNatClampNeg]) (w1' := (m1, S1)) rfl rfl rfl e1 (hI.sh.1.k 0 rfl _) (hI1.rm2 (by omega) hR mr).1 (hI1.rm2 (by omega) hR mr).2 ?_
  refine lw_sn K 1 (t := (263, LV x, [.ref 1, .int r])) rfl ?_
  refine lw_arg K (j := 1) rfl rfl v1 ?_
  refine lw_arg K (j := 2) rfl rfl v2 ?_
  refine lw_c2 K hR (i := 36) (m2 := 171) (is := [xs (x + 1).toNatClampNeg, xs (x + 2).toNatClampNeg]) (mr' := mr1) rfl rfl rfl e2 (hR.1.k 0 rfl _) (hI1.rm (by omega)).1 (hI1.rm (by omega)).2 ?_
  exact lw_jt K (q := r = r) (a := (850, LV x, [])) (a' := (279, LV x, [])) rfl rfl rfl (nx S1 m1 mr1 hI1)
set_option maxRecDepth 20000 in
set_option maxHeartbeats 4000000 in
theorem cs_alt (K : LwG p s m meth c b L xs g) (hR : Rfx Sr) (hI : Inw k S mm mr) (hk : k < 1000) (hin : vp_in (x + 1) L ∧ vp_in (x + 2) L ∧ vp_in (x + 3) L ∧ vp_in (x + 4) L ∧ vp_in (x + 5) L) (nx : ∀ (S1 : St) (m1 mr1 : Mm), Inw (k + 1) S1 m1 mr1 → LWp p l e s m below meth c b g 850 (LV x) [] (m1, S1) (mr1, Sr)) : LWp p l e s m below meth c b g 281 (LV x) [] (mm, S) (mr, Sr) := by
  obtain ⟨v1, v2, v3, v4, v5⟩ := hin
  obtain ⟨r, m1, S1, mr1, e1, e2, hI1⟩ := bo_alt (xs := xs) (L := L) hR.1 hI hk (xs (x + 1).toNatClampNeg) (xs (x + 2).toNatClampNeg) (xs (x + 3).toNatClampNeg)
  refine lw_sn K 1 (t := (282, LV x, [.ref 0])) rfl ?_
  refine lw_arg K (j := 1) rfl rfl v1 ?_
  refine lw_arg K (j := 2) rfl rfl v2 ?_
  refine lw_arg K (j := 3) rfl rfl v3 ?_
  refine lw_c1 K (i := 37) (m2 := 59) (is := [xs (x + 1).toNatClampNeg, xs (x + 2).toNatClampNeg, xs (x + 3).toNatClampNeg]) (w1' := (m1, S1)) rfl rfl rfl e1 (hI.sh.1.k 0 rfl _) (hI1.rm2 (by omega) hR mr).1 (hI1.rm2 (by omega) hR mr).2 ?_
  refine lw_sn K 1 (t := (301, LV x, [.ref 1, .int r])) rfl ?_
  refine lw_arg K (j := 1) rfl rfl v1 ?_
  refine lw_arg K (j := 2) rfl rfl v2 ?_
  refine lw_arg K (j := 3) rfl rfl v3 ?_
  refine lw_c2 K hR (i := 41) (m2 := 176) (is := [xs (x + 1).toNatClampNeg, xs (x + 2).toNatClampNeg, xs (x + 3).toNatClampNeg]) (mr' := mr1) rfl rfl rfl e2 (hR.1.k 0 rfl _) (hI1.rm (by omega)).1 (hI1.rm (by omega)).2 ?_
  exact lw_jt K (q := r = r) (a := (850, LV x, [])) (a' := (322, LV x, [])) rfl rfl rfl (nx S1 m1 mr1 hI1)
set_option maxRecDepth 20000 in
set_option maxHeartbeats 4000000 in
theorem cs_come (K : LwG p s m meth c b L xs g) (hR : Rfx Sr) (hI : Inw k S mm mr) (hk : k < 1000) (hin : vp_in (x + 1) L ∧ vp_in (x + 2) L ∧ vp_in (x + 3) L ∧ vp_in (x + 4) L ∧ vp_in (x + 5) L) (nx : ∀ (S1 : St) (m1 mr1 : Mm), Inw (k + 1) S1 m1 mr1 → LWp p l e s m below meth c b g 850 (LV x) [] (m1, S1) (mr1, Sr)) : LWp p l e s m below meth c b g 324 (LV x) [] (mm, S) (mr, Sr) := by
  obtain ⟨v1, v2, v3, v4, v5⟩ := hin
  obtain ⟨r, m1, S1, mr1, e1, e2, hI1⟩ := bo_come (xs := xs) (L := L) hR.1 hI hk (xs (x + 1).toNatClampNeg)
  refine lw_sn K 1 (t := (325, LV x, [.ref 0])) rfl ?_
  refine lw_arg K (j := 1) rfl rfl v1 ?_
  refine lw_c1 K (i := 42) (m2 := 62) (is := [xs (x + 1).toNatClampNeg]) (w1' := (m1, S1)) rfl rfl rfl e1 (hI.sh.1.k 0 rfl _) (hI1.rm2 (by omega) hR mr).1 (hI1.rm2 (by omega) hR mr).2 ?_
  refine lw_sn K 1 (t := (334, LV x, [.ref 1, .int r])) rfl ?_
  refine lw_arg K (j := 1) rfl rfl v1 ?_
  refine lw_c2 K hR (i := 46) (m2 := 178) (is := [xs (x + 1).toNatClampNeg]) (mr' := mr1) rfl rfl rfl e2 (hR.1.k 0 rfl _) (hI1.rm (by omega)).1 (hI1.rm (by omega)).2 ?_
  exact lw_jt K (q := r = r) (a := (850, LV x, [])) (a' := (345, LV x, [])) rfl rfl rfl (nx S1 m1 mr1 hI1)
set_option maxRecDepth 20000 in
set_option maxHeartbeats 4000000 in
theorem cs_give (K : LwG p s m meth c b L xs g) (hR : Rfx Sr) (hI : Inw k S mm mr) (hk : k < 1000) (hin : vp_in (x + 1) L ∧ vp_in (x + 2) L ∧ vp_in (x + 3) L ∧ vp_in (x + 4) L ∧ vp_in (x + 5) L) (nx : ∀ (S1 : St) (m1 mr1 : Mm), Inw (k + 1) S1 m1 mr1 → LWp p l e s m below meth c b g 850 (LV x) [] (m1, S1) (mr1, Sr)) : LWp p l e s m below meth c b g 347 (LV x) [] (mm, S) (mr, Sr) := by
  obtain ⟨v1, v2, v3, v4, v5⟩ := hin
  obtain ⟨r, m1, S1, mr1, e1, e2, hI1⟩ := bo_give (xs := xs) (L := L) hR.1 hI hk (xs (x + 1).toNatClampNeg)
  refine lw_sn K 1 (t := (348, LV x, [.ref 0])) rfl ?_
  refine lw_arg K (j := 1) rfl rfl v1 ?_
  refine lw_c1 K (i := 47) (m2 := 66) (is := [xs (x + 1).toNatClampNeg]) (w1' := (m1, S1)) rfl rfl rfl e1 (hI.sh.1.k 0 rfl _) (hI1.rm2 (by omega) hR mr).1 (hI1.rm2 (by omega) hR mr).2 ?_
  refine lw_sn K 1 (t := (357, LV x, [.ref 1, .int r])) rfl ?_
  refine lw_arg K (j := 1) rfl rfl v1 ?_
  refine lw_c2 K hR (i := 50) (m2 := 179) (is := [xs (x + 1).toNatClampNeg]) (mr' := mr1) rfl rfl rfl e2 (hR.1.k 0 rfl _) (hI1.rm (by omega)).1 (hI1.rm (by omega)).2 ?_
  exact lw_jt K (q := r = r) (a := (850, LV x, [])) (a' := (368, LV x, [])) rfl rfl rfl (nx S1 m1 mr1 hI1)
set_option maxRecDepth 20000 in
set_option maxHeartbeats 4000000 in
theorem cs_reached (K : LwG p s m meth c b L xs g) (hR : Rfx Sr) (hI : Inw k S mm mr) (hk : k < 1000) (hin : vp_in (x + 1) L ∧ vp_in (x + 2) L ∧ vp_in (x + 3) L ∧ vp_in (x + 4) L ∧ vp_in (x + 5) L) (nx : ∀ (S1 : St) (m1 mr1 : Mm), Inw (k + 1) S1 m1 mr1 → LWp p l e s m below meth c b g 850 (LV x) [] (m1, S1) (mr1, Sr)) : LWp p l e s m below meth c b g 370 (LV x) [] (mm, S) (mr, Sr) := by
  obtain ⟨v1, v2, v3, v4, v5⟩ := hin
  obtain ⟨r, m1, S1, mr1, e1, e2, hI1⟩ := bo_reached (xs := xs) (L := L) hR.1 hI hk (xs (x + 1).toNatClampNeg)
  refine lw_sn K 1 (t := (371, LV x, [.ref 0])) rfl ?_
  refine lw_arg K (j := 1) rfl rfl v1 ?_
  refine lw_c1 K (i := 51) (m2 := 72) (is := [xs (x + 1).toNatClampNeg]) (w1' := (m1, S1)) rfl rfl rfl e1 (hI.sh.1.k 0 rfl _) (hI1.rm2 (by omega) hR mr).1 (hI1.rm2 (by omega) hR mr).2 ?_
  refine lw_sn K 1 (t := (380, LV x, [.ref 1, .int r])) rfl ?_
  refine lw_arg K (j := 1) rfl rfl v1 ?_
  refine lw_c2 K hR (i := 54) (m2 := 183) (is := [xs (x + 1).toNatClampNeg]) (mr' := mr1) rfl rfl rfl e2 (hR.1.k 0 rfl _) (hI1.rm (by omega)).1 (hI1.rm (by omega)).2 ?_
  exact lw_jt K (q := r = r) (a := (850, LV x, [])) (a' := (391, LV x, [])) rfl rfl rfl (nx S1 m1 mr1 hI1)
set_option maxRecDepth 20000 in
set_option maxHeartbeats 4000000 in
theorem cs_sure (K : LwG p s m meth c b L xs g) (hR : Rfx Sr) (hI : Inw k S mm mr) (hk : k < 1000) (hin : vp_in (x + 1) L ∧ vp_in (x + 2) L ∧ vp_in (x + 3) L ∧ vp_in (x + 4) L ∧ vp_in (x + 5) L) (nx : ∀ (S1 : St) (m1 mr1 : Mm), Inw (k + 1) S1 m1 mr1 → LWp p l e s m below meth c b g 850 (LV x) [] (m1, S1) (mr1, Sr)) : LWp p l e s m below meth c b g 393 (LV x) [] (mm, S) (mr, Sr) := by
  obtain ⟨v1, v2, v3, v4, v5⟩ := hin
  obtain ⟨r, m1, S1, mr1, e1, e2, hI1⟩ := bo_sure (xs := xs) (L := L) hR.1 hI hk (xs (x + 1).toNatClampNeg) (decide (xs (x + 2).toNatClampNeg ≠ 0))
  refine lw_sn K 1 (t := (394, LV x, [.ref 0])) rfl ?_
  refine lw_arg K (j := 1) rfl rfl v1 ?_
  refine lw_arg K (j := 2) rfl rfl v2 ?_
  refine lw_bl K rfl rfl rfl rfl ?_
  refine lw_c1 K (i := 55) (m2 := 96) (is := [xs (x + 1).toNatClampNeg, tf (decide (xs (x + 2).toNatClampNeg ≠ 0))]) (w1' := (m1, S1)) rfl rfl rfl e1 (hI.sh.1.k 0 rfl _) (hI1.rm2 (by omega) hR mr).1 (hI1.rm2 (by omega) hR mr).2 ?_
  refine lw_sn K 1 (t := (416, LV x, [.ref 1, .int r])) rfl ?_
  refine lw_arg K (j := 1) rfl rfl v1 ?_
  refine lw_arg K (j := 2) rfl rfl v2 ?_
  refine lw_bl K rfl rfl rfl rfl ?_
  refine lw_c2 K hR (i := 59) (m2 := 192) (is := [xs (x + 1).toNatClampNeg, tf (decide (xs (x + 2).toNatClampNeg ≠ 0))]) (mr' := mr1) rfl rfl rfl e2 (hR.1.k 0 rfl _) (hI1.rm (by omega)).1 (hI1.rm (by omega)).2 ?_
  exact lw_jt K (q := r = r) (a := (850, LV x, [])) (a' := (440, LV x, [])) rfl rfl rfl (nx S1 m1 mr1 hI1)
set_option maxRecDepth 20000 in
set_option maxHeartbeats 4000000 in
theorem cs_best (K : LwG p s m meth c b L xs g) (hR : Rfx Sr) (hI : Inw k S mm mr) (hk : k < 1000) (hin : vp_in (x + 1) L ∧ vp_in (x + 2) L ∧ vp_in (x + 3) L ∧ vp_in (x + 4) L ∧ vp_in (x + 5) L) (nx : ∀ (S1 : St) (m1 mr1 : Mm), Inw (k + 1) S1 m1 mr1 → LWp p l e s m below meth c b g 850 (LV x) [] (m1, S1) (mr1, Sr)) : LWp p l e s m below meth c b g 442 (LV x) [] (mm, S) (mr, Sr) := by
  obtain ⟨v1, v2, v3, v4, v5⟩ := hin
  obtain ⟨r, m1, S1, mr1, e1, e2, hI1⟩ := bo_best (xs := xs) (L := L) hR.1 hI hk (xs (x + 1).toNatClampNeg) (decide (xs (x + 2).toNatClampNeg ≠ 0))
  refine lw_sn K 1 (t := (443, LV x, [.ref 0])) rfl ?_
  refine lw_arg K (j := 1) rfl rfl v1 ?_
  refine lw_arg K (j := 2) rfl rfl v2 ?_
  refine lw_bl K rfl rfl rfl rfl ?_
  refine lw_c1 K (i := 60) (m2 := 109) (is := [xs (x + 1).toNatClampNeg, tf (decide (xs (x + 2).toNatClampNeg ≠ 0))]) (w1' := (m1, S1)) rfl rfl rfl e1 (hI.sh.1.k 0 rfl _) (hI1.rm2 (by omega) hR mr).1 (hI1.rm2 (by omega) hR mr).2 ?_
  refine lw_sn K 1 (t := (465, LV x, [.ref 1, .int r])) rfl ?_
  refine lw_arg K (j := 1) rfl rfl v1 ?_
  refine lw_arg K (j := 2) rfl rfl v2 ?_
  refine lw_bl K rfl rfl rfl rfl ?_
  refine lw_c2 K hR (i := 63) (m2 := 201) (is := [xs (x + 1).toNatClampNeg, tf (decide (xs (x + 2).toNatClampNeg ≠ 0))]) (mr' := mr1) rfl rfl rfl e2 (hR.1.k 0 rfl _) (hI1.rm (by omega)).1 (hI1.rm (by omega)).2 ?_
  exact lw_jt K (q := r = r) (a := (850, LV x, [])) (a' := (489, LV x, [])) rfl rfl rfl (nx S1 m1 mr1 hI1)
set_option maxRecDepth 20000 in
set_option maxHeartbeats 4000000 in
theorem cs_proof (K : LwG p s m meth c b L xs g) (hR : Rfx Sr) (hI : Inw k S mm mr) (hk : k < 1000) (hin : vp_in (x + 1) L ∧ vp_in (x + 2) L ∧ vp_in (x + 3) L ∧ vp_in (x + 4) L ∧ vp_in (x + 5) L) (nx : ∀ (S1 : St) (m1 mr1 : Mm), Inw (k + 1) S1 m1 mr1 → LWp p l e s m below meth c b g 850 (LV x) [] (m1, S1) (mr1, Sr)) : LWp p l e s m below meth c b g 491 (LV x) [] (mm, S) (mr, Sr) := by
  obtain ⟨v1, v2, v3, v4, v5⟩ := hin
  obtain ⟨r, m1, S1, mr1, e1, e2, hI1⟩ := bo_proof (xs := xs) (L := L) hR.1 hI hk (xs (x + 1).toNatClampNeg) (xs (x + 2).toNatClampNeg)
  refine lw_sn K 1 (t := (492, LV x, [.ref 0])) rfl ?_
  refine lw_arg K (j := 1) rfl rfl v1 ?_
  refine lw_arg K (j := 2) rfl rfl v2 ?_
  refine lw_c1 K (i := 64) (m2 := 111) (is := [xs (x + 1).toNatClampNeg, xs (x + 2).toNatClampNeg]) (w1' := (m1, S1)) rfl rfl rfl e1 (hI.sh.1.k 0 rfl _) (hI1.rm2 (by omega) hR mr).1 (hI1.rm2 (by omega) hR mr).2 ?_
  refine lw_sn K 1 (t := (506, LV x, [.ref 1, .int r])) rfl ?_
  refine lw_arg K (j := 1) rfl rfl v1 ?_
  refine lw_arg K (j := 2) rfl rfl v2 ?_
  refine lw_c2 K hR (i := 67) (m2 := 202) (is := [xs (x + 1).toNatClampNeg, xs (x + 2).toNatClampNeg]) (mr' := mr1) rfl rfl rfl e2 (hR.1.k 0 rfl _) (hI1.rm (by omega)).1 (hI1.rm (by omega)).2 ?_
  exact lw_jt K (q := r = r) (a := (850, LV x, [])) (a' := (522, LV x, [])) rfl rfl rfl (nx S1 m1 mr1 hI1)
set_option maxRecDepth 20000 in
set_option maxHeartbeats 4000000 in
theorem cs_known (K : LwG p s m meth c b L xs g) (hR : Rfx Sr) (hI : Inw k S mm mr) (hk : k < 1000) (hin : vp_in (x + 1) L ∧ vp_in (x + 2) L ∧ vp_in (x + 3) L ∧ vp_in (x + 4) L ∧ vp_in (x + 5) L) (nx : ∀ (S1 : St) (m1 mr1 : Mm), Inw (k + 1) S1 m1 mr1 → LWp p l e s m below meth c b g 850 (LV x) [] (m1, S1) (mr1, Sr)) : LWp p l e s m below meth c b g 524 (LV x) [] (mm, S) (mr, Sr) := by
  obtain ⟨v1, v2, v3, v4, v5⟩ := hin
  obtain ⟨r, m1, S1, mr1, e1, e2, hI1⟩ := bo_known (xs := xs) (L := L) hR.1 hI hk (xs (x + 1).toNatClampNeg) (xs (x + 2).toNatClampNeg)
  refine lw_sn K 1 (t := (525, LV x, [.ref 0])) rfl ?_
  refine lw_arg K (j := 1) rfl rfl v1 ?_
  refine lw_arg K (j := 2) rfl rfl v2 ?_
  refine lw_c1 K (i := 68) (m2 := 113) (is := [xs (x + 1).toNatClampNeg, xs (x + 2).toNatClampNeg]) (w1' := (m1, S1)) rfl rfl rfl e1 (hI.sh.1.k 0 rfl _) (hI1.rm2 (by omega) hR mr).1 (hI1.rm2 (by omega) hR mr).2 ?_
  refine lw_sn K 1 (t := (539, LV x, [.ref 1, .int r])) rfl ?_
  refine lw_arg K (j := 1) rfl rfl v1 ?_
  refine lw_arg K (j := 2) rfl rfl v2 ?_
  refine lw_c2 K hR (i := 71) (m2 := 203) (is := [xs (x + 1).toNatClampNeg, xs (x + 2).toNatClampNeg]) (mr' := mr1) rfl rfl rfl e2 (hR.1.k 0 rfl _) (hI1.rm (by omega)).1 (hI1.rm (by omega)).2 ?_
  exact lw_jt K (q := r = r) (a := (850, LV x, [])) (a' := (555, LV x, [])) rfl rfl rfl (nx S1 m1 mr1 hI1)
set_option maxRecDepth 20000 in
set_option maxHeartbeats 4000000 in
theorem cs_cost (K : LwG p s m meth c b L xs g) (hR : Rfx Sr) (hI : Inw k S mm mr) (hk : k < 1000) (hin : vp_in (x + 1) L ∧ vp_in (x + 2) L ∧ vp_in (x + 3) L ∧ vp_in (x + 4) L ∧ vp_in (x + 5) L) (nx : ∀ (S1 : St) (m1 mr1 : Mm), Inw (k + 1) S1 m1 mr1 → LWp p l e s m below meth c b g 850 (LV x) [] (m1, S1) (mr1, Sr)) : LWp p l e s m below meth c b g 557 (LV x) [] (mm, S) (mr, Sr) := by
  obtain ⟨v1, v2, v3, v4, v5⟩ := hin
  obtain ⟨r, m1, S1, mr1, e1, e2, hI1⟩ := bo_cost (xs := xs) (L := L) hR.1 hI hk (xs (x + 1).toNatClampNeg)
  refine lw_sn K 1 (t := (558, LV x, [.ref 0])) rfl ?_
  refine lw_arg K (j := 1) rfl rfl v1 ?_
  refine lw_c1 K (i := 72) (m2 := 122) (is := [xs (x + 1).toNatClampNeg]) (w1' := (m1, S1)) rfl rfl rfl e1 (hI.sh.1.k 0 rfl _) (hI1.rm2 (by omega) hR mr).1 (hI1.rm2 (by omega) hR mr).2 ?_
  refine lw_sn K 1 (t := (567, LV x, [.ref 1, .int r])) rfl ?_
  refine lw_arg K (j := 1) rfl rfl v1 ?_
  refine lw_c2 K hR (i := 75) (m2 := 207) (is := [xs (x + 1).toNatClampNeg]) (mr' := mr1) rfl rfl rfl e2 (hR.1.k 0 rfl _) (hI1.rm (by omega)).1 (hI1.rm (by omega)).2 ?_
  exact lw_jt K (q := r = r) (a := (850, LV x, [])) (a' := (578, LV x, [])) rfl rfl rfl (nx S1 m1 mr1 hI1)
set_option maxRecDepth 20000 in
set_option maxHeartbeats 4000000 in
theorem cs_fare (K : LwG p s m meth c b L xs g) (hR : Rfx Sr) (hI : Inw k S mm mr) (hk : k < 1000) (hin : vp_in (x + 1) L ∧ vp_in (x + 2) L ∧ vp_in (x + 3) L ∧ vp_in (x + 4) L ∧ vp_in (x + 5) L) (nx : ∀ (S1 : St) (m1 mr1 : Mm), Inw (k + 1) S1 m1 mr1 → LWp p l e s m below meth c b g 850 (LV x) [] (m1, S1) (mr1, Sr)) : LWp p l e s m below meth c b g 580 (LV x) [] (mm, S) (mr, Sr) := by
  obtain ⟨v1, v2, v3, v4, v5⟩ := hin
  obtain ⟨r, m1, S1, mr1, e1, e2, hI1⟩ := bo_fare (xs := xs) (L := L) hR.1 hI hk (xs (x + 1).toNatClampNeg) (xs (x + 2).toNatClampNeg) (decide (xs (x + 3).toNatClampNeg ≠ 0))
  refine lw_sn K 1 (t := (581, LV x, [.ref 0])) rfl ?_
  refine lw_arg K (j := 1) rfl rfl v1 ?_
  refine lw_arg K (j := 2) rfl rfl v2 ?_
  refine lw_arg K (j := 3) rfl rfl v3 ?_
  refine lw_bl K rfl rfl rfl rfl ?_
  refine lw_c1 K (i := 76) (m2 := 127) (is := [xs (x + 1).toNatClampNeg, xs (x + 2).toNatClampNeg, tf (decide (xs (x + 3).toNatClampNeg ≠ 0))]) (w1' := (m1, S1)) rfl rfl rfl e1 (hI.sh.1.k 0 rfl _) (hI1.rm2 (by omega) hR mr).1 (hI1.rm2 (by omega) hR mr).2 ?_
  refine lw_sn K 1 (t := (608, LV x, [.ref 1, .int r])) rfl ?_
  refine lw_arg K (j := 1) rfl rfl v1 ?_
  refine lw_arg K (j := 2) rfl rfl v2 ?_
  refine lw_arg K (j := 3) rfl rfl v3 ?_
  refine lw_bl K rfl rfl rfl rfl ?_
  refine lw_c2 K hR (i := 80) (m2 := 208) (is := [xs (x + 1).toNatClampNeg, xs (x + 2).toNatClampNeg, tf (decide (xs (x + 3).toNatClampNeg ≠ 0))]) (mr' := mr1) rfl rfl rfl e2 (hR.1.k 0 rfl _) (hI1.rm (by omega)).1 (hI1.rm (by omega)).2 ?_
  exact lw_jt K (q := r = r) (a := (850, LV x, [])) (a' := (637, LV x, [])) rfl rfl rfl (nx S1 m1 mr1 hI1)
set_option maxRecDepth 20000 in
set_option maxHeartbeats 4000000 in
theorem cs_mended (K : LwG p s m meth c b L xs g) (hR : Rfx Sr) (hI : Inw k S mm mr) (hk : k < 1000) (hin : vp_in (x + 1) L ∧ vp_in (x + 2) L ∧ vp_in (x + 3) L ∧ vp_in (x + 4) L ∧ vp_in (x + 5) L) (nx : ∀ (S1 : St) (m1 mr1 : Mm), Inw (k + 1) S1 m1 mr1 → LWp p l e s m below meth c b g 850 (LV x) [] (m1, S1) (mr1, Sr)) : LWp p l e s m below meth c b g 639 (LV x) [] (mm, S) (mr, Sr) := by
  obtain ⟨v1, v2, v3, v4, v5⟩ := hin
  obtain ⟨r, m1, S1, mr1, e1, e2, hI1⟩ := bo_mended (xs := xs) (L := L) hR.1 hI hk (xs (x + 1).toNatClampNeg) (xs (x + 2).toNatClampNeg)
  refine lw_sn K 1 (t := (640, LV x, [.ref 0])) rfl ?_
  refine lw_arg K (j := 1) rfl rfl v1 ?_
  refine lw_arg K (j := 2) rfl rfl v2 ?_
  refine lw_c1 K (i := 81) (m2 := 133) (is := [xs (x + 1).toNatClampNeg, xs (x + 2).toNatClampNeg]) (w1' := (m1, S1)) rfl rfl rfl e1 (hI.sh.1.k 0 rfl _) (hI1.rm2 (by omega) hR mr).1 (hI1.rm2 (by omega) hR mr).2 ?_
  refine lw_sn K 1 (t := (654, LV x, [.ref 1, .int r])) rfl ?_
  refine lw_arg K (j := 1) rfl rfl v1 ?_
  refine lw_arg K (j := 2) rfl rfl v2 ?_
  refine lw_c2 K hR (i := 84) (m2 := 212) (is := [xs (x + 1).toNatClampNeg, xs (x + 2).toNatClampNeg]) (mr' := mr1) rfl rfl rfl e2 (hR.1.k 0 rfl _) (hI1.rm (by omega)).1 (hI1.rm (by omega)).2 ?_
  exact lw_jt K (q := r = r) (a := (850, LV x, [])) (a' := (670, LV x, [])) rfl rfl rfl (nx S1 m1 mr1 hI1)
set_option maxRecDepth 20000 in
set_option maxHeartbeats 4000000 in
theorem cs_paper (K : LwG p s m meth c b L xs g) (hR : Rfx Sr) (hI : Inw k S mm mr) (hk : k < 1000) (hin : vp_in (x + 1) L ∧ vp_in (x + 2) L ∧ vp_in (x + 3) L ∧ vp_in (x + 4) L ∧ vp_in (x + 5) L) (nx : ∀ (S1 : St) (m1 mr1 : Mm), Inw (k + 1) S1 m1 mr1 → LWp p l e s m below meth c b g 850 (LV x) [] (m1, S1) (mr1, Sr)) : LWp p l e s m below meth c b g 672 (LV x) [] (mm, S) (mr, Sr) := by
  obtain ⟨v1, v2, v3, v4, v5⟩ := hin
  obtain ⟨r, m1, S1, mr1, e1, e2, hI1⟩ := bo_paper (xs := xs) (L := L) hR.1 hI hk (xs (x + 1).toNatClampNeg) (xs (x + 2).toNatClampNeg)
  refine lw_sn K 1 (t := (673, LV x, [.ref 0])) rfl ?_
  refine lw_arg K (j := 1) rfl rfl v1 ?_
  refine lw_arg K (j := 2) rfl rfl v2 ?_
  refine lw_c1 K (i := 85) (m2 := 134) (is := [xs (x + 1).toNatClampNeg, xs (x + 2).toNatClampNeg]) (w1' := (m1, S1)) rfl rfl rfl e1 (hI.sh.1.k 0 rfl _) (hI1.rm2 (by omega) hR mr).1 (hI1.rm2 (by omega) hR mr).2 ?_
  refine lw_sn K 1 (t := (687, LV x, [.ref 1, .int r])) rfl ?_
  refine lw_arg K (j := 1) rfl rfl v1 ?_
  refine lw_arg K (j := 2) rfl rfl v2 ?_
  refine lw_c2 K hR (i := 88) (m2 := 213) (is := [xs (x + 1).toNatClampNeg, xs (x + 2).toNatClampNeg]) (mr' := mr1) rfl rfl rfl e2 (hR.1.k 0 rfl _) (hI1.rm (by omega)).1 (hI1.rm (by omega)).2 ?_
  exact lw_jt K (q := r = r) (a := (850, LV x, [])) (a' := (703, LV x, [])) rfl rfl rfl (nx S1 m1 mr1 hI1)
set_option maxRecDepth 20000 in
set_option maxHeartbeats 4000000 in
theorem cs_judge (K : LwG p s m meth c b L xs g) (hR : Rfx Sr) (hI : Inw k S mm mr) (hk : k < 1000) (hin : vp_in (x + 1) L ∧ vp_in (x + 2) L ∧ vp_in (x + 3) L ∧ vp_in (x + 4) L ∧ vp_in (x + 5) L) (nx : ∀ (S1 : St) (m1 mr1 : Mm), Inw (k + 1) S1 m1 mr1 → LWp p l e s m below meth c b g 850 (LV x) [] (m1, S1) (mr1, Sr)) : LWp p l e s m below meth c b g 705 (LV x) [] (mm, S) (mr, Sr) := by
  obtain ⟨v1, v2, v3, v4, v5⟩ := hin
  obtain ⟨r, m1, S1, mr1, e1, e2, hI1⟩ := bo_judge (xs := xs) (L := L) hR.1 hI hk (xs (x + 1).toNatClampNeg) (xs (x + 2).toNatClampNeg)
  refine lw_sn K 1 (t := (706, LV x, [.ref 0])) rfl ?_
  refine lw_arg K (j := 1) rfl rfl v1 ?_
  refine lw_arg K (j := 2) rfl rfl v2 ?_
  refine lw_c1 K (i := 89) (m2 := 136) (is := [xs (x + 1).toNatClampNeg, xs (x + 2).toNatClampNeg]) (w1' := (m1, S1)) rfl rfl rfl e1 (hI.sh.1.k 0 rfl _) (hI1.rm2 (by omega) hR mr).1 (hI1.rm2 (by omega) hR mr).2 ?_
  refine lw_sn K 1 (t := (720, LV x, [.ref 1, .int r])) rfl ?_
  refine lw_arg K (j := 1) rfl rfl v1 ?_
  refine lw_arg K (j := 2) rfl rfl v2 ?_
  refine lw_c2 K hR (i := 92) (m2 := 214) (is := [xs (x + 1).toNatClampNeg, xs (x + 2).toNatClampNeg]) (mr' := mr1) rfl rfl rfl e2 (hR.1.k 0 rfl _) (hI1.rm (by omega)).1 (hI1.rm (by omega)).2 ?_
  exact lw_jt K (q := r = r) (a := (850, LV x, [])) (a' := (736, LV x, [])) rfl rfl rfl (nx S1 m1 mr1 hI1)
set_option maxRecDepth 20000 in
set_option maxHeartbeats 4000000 in
theorem cs_judged (K : LwG p s m meth c b L xs g) (hR : Rfx Sr) (hI : Inw k S mm mr) (hk : k < 1000) (hin : vp_in (x + 1) L ∧ vp_in (x + 2) L ∧ vp_in (x + 3) L ∧ vp_in (x + 4) L ∧ vp_in (x + 5) L) (nx : ∀ (S1 : St) (m1 mr1 : Mm), Inw (k + 1) S1 m1 mr1 → LWp p l e s m below meth c b g 850 (LV x) [] (m1, S1) (mr1, Sr)) : LWp p l e s m below meth c b g 738 (LV x) [] (mm, S) (mr, Sr) := by
  obtain ⟨v1, v2, v3, v4, v5⟩ := hin
  obtain ⟨r, m1, S1, mr1, e1, e2, hI1⟩ := bo_judged (xs := xs) (L := L) hR.1 hI hk (xs (x + 1).toNatClampNeg) (xs (x + 2).toNatClampNeg) (xs (x + 3).toNatClampNeg)
  refine lw_sn K 1 (t := (739, LV x, [.ref 0])) rfl ?_
  refine lw_arg K (j := 1) rfl rfl v1 ?_
  refine lw_arg K (j := 2) rfl rfl v2 ?_
  refine lw_arg K (j := 3) rfl rfl v3 ?_
  refine lw_c1 K (i := 93) (m2 := 138) (is := [xs (x + 1).toNatClampNeg, xs (x + 2).toNatClampNeg, xs (x + 3).toNatClampNeg]) (w1' := (m1, S1)) rfl rfl rfl e1 (hI.sh.1.k 0 rfl _) (hI1.rm2 (by omega) hR mr).1 (hI1.rm2 (by omega) hR mr).2 ?_
  refine lw_sn K 1 (t := (758, LV x, [.ref 1, .int r])) rfl ?_
  refine lw_arg K (j := 1) rfl rfl v1 ?_
  refine lw_arg K (j := 2) rfl rfl v2 ?_
  refine lw_arg K (j := 3) rfl rfl v3 ?_
  refine lw_c2 K hR (i := 96) (m2 := 215) (is := [xs (x + 1).toNatClampNeg, xs (x + 2).toNatClampNeg, xs (x + 3).toNatClampNeg]) (mr' := mr1) rfl rfl rfl e2 (hR.1.k 0 rfl _) (hI1.rm (by omega)).1 (hI1.rm (by omega)).2 ?_
  exact lw_jt K (q := r = r) (a := (850, LV x, [])) (a' := (779, LV x, [])) rfl rfl rfl (nx S1 m1 mr1 hI1)
set_option maxRecDepth 20000 in
set_option maxHeartbeats 4000000 in
theorem cs_image (K : LwG p s m meth c b L xs g) (hR : Rfx Sr) (hI : Inw k S mm mr) (hk : k < 1000) (hin : vp_in (x + 1) L ∧ vp_in (x + 2) L ∧ vp_in (x + 3) L ∧ vp_in (x + 4) L ∧ vp_in (x + 5) L) (nx : ∀ (S1 : St) (m1 mr1 : Mm), Inw (k + 1) S1 m1 mr1 → LWp p l e s m below meth c b g 850 (LV x) [] (m1, S1) (mr1, Sr)) : LWp p l e s m below meth c b g 781 (LV x) [] (mm, S) (mr, Sr) := by
  obtain ⟨v1, v2, v3, v4, v5⟩ := hin
  obtain ⟨r, m1, S1, mr1, e1, e2, hI1⟩ := bo_image (xs := xs) (L := L) hR.1 hI hk (xs (x + 1).toNatClampNeg)
  refine lw_sn K 1 (t := (782, LV x, [.ref 0])) rfl ?_
  refine lw_arg K (j := 1) rfl rfl v1 ?_
  refine lw_c1 K (i := 97) (m2 := 140) (is := [xs (x + 1).toNatClampNeg]) (w1' := (m1, S1)) rfl rfl rfl e1 (hI.sh.1.k 0 rfl _) (hI1.rm2 (by omega) hR mr).1 (hI1.rm2 (by omega) hR mr).2 ?_
  refine lw_sn K 1 (t := (791, LV x, [.ref 1, .int r])) rfl ?_
  refine lw_arg K (j := 1) rfl rfl v1 ?_
  refine lw_c2 K hR (i := 100) (m2 := 216) (is := [xs (x + 1).toNatClampNeg]) (mr' := mr1) rfl rfl rfl e2 (hR.1.k 0 rfl _) (hI1.rm (by omega)).1 (hI1.rm (by omega)).2 ?_
  exact lw_jt K (q := r = r) (a := (850, LV x, [])) (a' := (802, LV x, [])) rfl rfl rfl (nx S1 m1 mr1 hI1)
set_option maxRecDepth 20000 in
set_option maxHeartbeats 4000000 in
theorem cs_on (K : LwG p s m meth c b L xs g) (hR : Rfx Sr) (hI : Inw k S mm mr) (hk : k < 1000) (hin : vp_in (x + 1) L ∧ vp_in (x + 2) L ∧ vp_in (x + 3) L ∧ vp_in (x + 4) L ∧ vp_in (x + 5) L) (nx : ∀ (S1 : St) (m1 mr1 : Mm), Inw (k + 1) S1 m1 mr1 → LWp p l e s m below meth c b g 850 (LV x) [] (m1, S1) (mr1, Sr)) : LWp p l e s m below meth c b g 804 (LV x) [] (mm, S) (mr, Sr) := by
  obtain ⟨v1, v2, v3, v4, v5⟩ := hin
  obtain ⟨r, m1, S1, mr1, e1, e2, hI1⟩ := bo_on (xs := xs) (L := L) hR.1 hI hk (xs (x + 1).toNatClampNeg)
  refine lw_sn K 1 (t := (805, LV x, [.ref 0])) rfl ?_
  refine lw_arg K (j := 1) rfl rfl v1 ?_
  refine lw_c1 K (i := 101) (m2 := 141) (is := [xs (x + 1).toNatClampNeg]) (w1' := (m1, S1)) rfl rfl rfl e1 (hI.sh.1.k 0 rfl _) (hI1.rm2 (by omega) hR mr).1 (hI1.rm2 (by omega) hR mr).2 ?_
  refine lw_sn K 1 (t := (814, LV x, [.ref 1, .int r])) rfl ?_
  refine lw_arg K (j := 1) rfl rfl v1 ?_
  refine lw_c2 K hR (i := 104) (m2 := 217) (is := [xs (x + 1).toNatClampNeg]) (mr' := mr1) rfl rfl rfl e2 (hR.1.k 0 rfl _) (hI1.rm (by omega)).1 (hI1.rm (by omega)).2 ?_
  exact lw_jt K (q := r = r) (a := (850, LV x, [])) (a' := (825, LV x, [])) rfl rfl rfl (nx S1 m1 mr1 hI1)
set_option maxRecDepth 20000 in
set_option maxHeartbeats 4000000 in
theorem cs_count (K : LwG p s m meth c b L xs g) (hR : Rfx Sr) (hI : Inw k S mm mr) (hk : k < 1000) (hin : vp_in (x + 1) L ∧ vp_in (x + 2) L ∧ vp_in (x + 3) L ∧ vp_in (x + 4) L ∧ vp_in (x + 5) L) (nx : ∀ (S1 : St) (m1 mr1 : Mm), Inw (k + 1) S1 m1 mr1 → LWp p l e s m below meth c b g 850 (LV x) [] (m1, S1) (mr1, Sr)) : LWp p l e s m below meth c b g 827 (LV x) [] (mm, S) (mr, Sr) := by
  obtain ⟨v1, v2, v3, v4, v5⟩ := hin
  obtain ⟨r, m1, S1, mr1, e1, e2, hI1⟩ := bo_count (xs := xs) (L := L) hR.1 hI hk (xs (x + 1).toNatClampNeg)
  refine lw_sn K 1 (t := (828, LV x, [.ref 0])) rfl ?_
  refine lw_arg K (j := 1) rfl rfl v1 ?_
  refine lw_c1 K (i := 105) (m2 := 142) (is := [xs (x + 1).toNatClampNeg]) (w1' := (m1, S1)) rfl rfl rfl e1 (hI.sh.1.k 0 rfl _) (hI1.rm2 (by omega) hR mr).1 (hI1.rm2 (by omega) hR mr).2 ?_
  refine lw_sn K 1 (t := (837, LV x, [.ref 1, .int r])) rfl ?_
  refine lw_arg K (j := 1) rfl rfl v1 ?_
  refine lw_c2 K hR (i := 108) (m2 := 218) (is := [xs (x + 1).toNatClampNeg]) (mr' := mr1) rfl rfl rfl e2 (hR.1.k 0 rfl _) (hI1.rm (by omega)).1 (hI1.rm (by omega)).2 ?_
  exact lw_jt K (q := r = r) (a := (850, LV x, [])) (a' := (848, LV x, [])) rfl rfl rfl (nx S1 m1 mr1 hI1)
end LAWCASE
