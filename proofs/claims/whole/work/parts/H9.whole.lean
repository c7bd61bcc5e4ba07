/-! THE LAW FROM ITS ENTRY: for every script of at most 3072 ints it comes to its end with true. -/
set_option maxRecDepth 20000 in
theorem whole_start {p : Program} {e : Jvm.Env} {s : State} {m : MethodId} {below : List Frame} {meth : Method} {c : Code} (l : Launch) {b L : Nat} {xs : Nat → Int32} (hL : L ≤ 3072) (C0 : lw_At p s m meth c b L xs) : W p l e room_1 s m #[Value.ref b] below meth c s.heap [] 0 0 (lw_Z below #[Value.ref b] s) (entryFrame m ([Value.ref b] : List Value).toArray 4) := by
  obtain ⟨hx, hb, hret, hml, hown, hts, hX, hbl, hlk, hgv⟩ := id C0
  obtain ⟨g, hg⟩ := cx_start (args := #[Value.ref b]) hts hX hbl hgv
  have K : LwG p s m meth c b L xs g := ⟨C0, hL, hg⟩
  obtain ⟨m1, S1, e1, a1, a2, a3, a4, a5, a6, a7, n1, s1, f1, c1⟩ := mkd_C (xs := xs) (L := L)
  obtain ⟨m2, S2, e2, b1, b2, b3, b4, b5, b6, n2, s2, c2⟩ := mkd_R (xs := xs) (L := L)
  have hR : Rfx S2 := ⟨b1, n2, s2, fun _ => c2⟩
  have hI : Inw 0 S1 m1 m2 := ⟨⟨false, mZero, 0, 0, none, fun _ => none, 0, REL_0 a1 a2 a3 a4 a5 a6 a7 b2 b3 b4 b5 b6, Nat.le_refl 0⟩, by omega, by omega⟩
  have hlp := lp_all (l := l) (e := e) (below := below) K hR (L + 1) 0 S1 m1 m2 (by omega) (by omega) hI
  rw [lg_entry_eq]
  have hl := lv_entry ([Value.ref b] : List Value) (n := 4) (by show 1 ≤ 4; omega)
  have hsc : gsc (adl s.heap.size, g) = b := (hg (adl s.heap.size) (aW s) (fun _ h => h)).2
  refine lw_made K e1 n1 s1 c1 e2 n2 s2 c2 ?_ ?_
  · refine lw_sn K 3 (t := (18, [(3, .int 0), (2, .ref 1), (1, .ref 0), (0, .retAddr 1000)], [])) rfl ?_
    refine lw_sub (LV (nI (6 * 0))) (fun q hq => ?_) hlp
    have e0 : nI (6 * 0) = 0 := nI_0
    rw [e0] at hq
    unfold LV at hq
    simp only [List.mem_cons, List.not_mem_nil, or_false] at hq ⊢
    rcases hq with q | q | q | q
    · exact Or.inr (Or.inr (Or.inr q))
    · exact Or.inr (Or.inr (Or.inl q))
    · exact Or.inr (Or.inl q)
    · exact Or.inl q
  · have e3 : cvl (adl s.heap.size, g) [(0, .retAddr 1000)] = [(0, Value.ref b)] := by
      show [(0, cv (adl s.heap.size, g) (.retAddr 1000))] = _
      rw [cv_x, hsc]
    rw [e3]
    exact hl
