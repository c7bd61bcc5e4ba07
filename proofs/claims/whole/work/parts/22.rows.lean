/-! ROWS for runs: one an instruction, or many. -/
def RN (xs : Nat → Int32) (L : Nat) (al : Bool) (C : Cr) (mid pc : Nat) (lv : Lc) (st : List Value) (w : Wd) (r : Option Value) (w' : Wd) : Prop := ∃ n, Rn xs L al C mid n pc lv st w r w'
/-- k instructions without memory -/
def stn (mid : Nat) : Nat → Nx → Option Nx
  | 0, x => some x
  | k + 1, x => match cd mid x.1 with
    | none => none
    | some i => match stp (mL mid) (cI (mO mid)) (cJ (mO mid)) i.1 i.2 x.1 x.2.1 x.2.2 with
      | none => none
      | some y => stn mid k y
/-- the listed locals are those -/
def Sub (l l' : Lc) : Prop := ∀ i v, lcg l i = some v → lcg l' i = some v
theorem Sub.of {l l' : Lc} (h : allP (fun q => lcg l' q.1 = some q.2) l) : Sub l l' := fun i v hi => allP_mem h (i, v) (lcg_mem hi)
theorem lcg_filter {p : Nat × Value → Bool} : ∀ {l : Lc} {i : Nat} {v : Value}, lcg l i = some v → p (i, v) = true → lcg (l.filter p) i = some v
  | [], _, _, h, _ => by cases h
  | q :: l, i, v, h, hp => by
    unfold lcg at h
    by_cases hq : q.1 = i
    · rw [if_pos hq] at h
      cases h
      have : q = (i, q.2) := by rw [← hq]
      rw [List.filter_cons, if_pos (by rw [this]; exact hp)]
      unfold lcg
      rw [if_pos hq]
    · rw [if_neg hq] at h
      rw [List.filter_cons]
      split
      · unfold lcg
        rw [if_neg hq]
        exact lcg_filter h hp
      · exact lcg_filter h hp
theorem lcg_filter' {p : Nat × Value → Bool} (hp : ∀ i v v', v.category = v'.category → p (i, v) = p (i, v')) : ∀ {l : Lc} {i : Nat} {v : Value}, lcg (l.filter p) i = some v → p (i, v) = true
  | [], _, _, h => by cases h
  | q :: l, i, v, h => by
    have := lcg_mem h
    exact (List.mem_filter.mp this).2
theorem lcg_cons {q : Nat × Value} {l : Lc} {i : Nat} : lcg (q :: l) i = if q.1 = i then some q.2 else lcg l i := rfl
/-- lists in which each place stands once -/
def Uq : Lc → Prop
  | [] => True
  | q :: l => lcg l q.1 = none ∧ Uq l
theorem lcg_filter_none {p : Nat × Value → Bool} : ∀ {l : Lc} {i : Nat}, lcg l i = none → lcg (l.filter p) i = none
  | [], _, _ => rfl
  | q :: l, i, h => by
    rw [lcg_cons] at h
    by_cases hq : q.1 = i
    · rw [if_pos hq] at h; cases h
    · rw [if_neg hq] at h
      rw [List.filter_cons]
      split
      · rw [lcg_cons, if_neg hq]; exact lcg_filter_none h
      · exact lcg_filter_none h
theorem Uq.filter {p : Nat × Value → Bool} : ∀ {l : Lc}, Uq l → Uq (l.filter p)
  | [], _ => trivial
  | q :: l, h => by
    rw [List.filter_cons]
    split
    · exact ⟨lcg_filter_none h.1, h.2.filter⟩
    · exact h.2.filter
theorem lcg_of_filter {p : Nat × Value → Bool} : ∀ {l : Lc} {i : Nat} {v : Value}, Uq l → lcg (l.filter p) i = some v → lcg l i = some v
  | [], _, _, _, h => by cases h
  | q :: l, i, v, hu, h => by
    rw [List.filter_cons] at h
    by_cases hq : q.1 = i
    · split at h
      · rw [lcg_cons, if_pos hq] at h ⊢
        exact h
      · have h0 := hu.1
        rw [hq] at h0
        rw [lcg_filter_none h0] at h
        cases h
    · rw [lcg_cons, if_neg hq]
      split at h
      · rw [lcg_cons, if_neg hq] at h
        exact lcg_of_filter hu.2 h
      · exact lcg_of_filter hu.2 h
theorem Sub.lcf {l l' : Lc} {p : Nat × Value → Bool} {i : Nat} {v : Value} (hu : Uq l) (h : Sub l l') : Sub ((i, v) :: l.filter p) ((i, v) :: l'.filter p) := by
  intro j u hj
  rw [lcg_cons] at hj ⊢
  by_cases hij : i = j
  · rw [if_pos hij] at hj ⊢
    exact hj
  · rw [if_neg hij] at hj ⊢
    have h1 := lcg_of_filter hu hj
    exact lcg_filter (h j u h1) ((List.mem_filter.mp (lcg_mem hj)).2)
theorem Uq.lc1 {l : Lc} {i : Nat} {v : Value} (h : Uq l) : Uq (lc1 l i v) := by
  refine ⟨?_, h.filter⟩
  cases hq : lcg (l.filter fun q => !(q.1 == i) && !(q.1 + 1 == i && q.2.category == 2)) i with
  | none => rfl
  | some u =>
    have := (List.mem_filter.mp (lcg_mem hq)).2
    simp at this
theorem Uq.lc2 {l : Lc} {i : Nat} {v : Value} (h : Uq l) : Uq (lc2 l i v) := by
  refine ⟨?_, h.filter⟩
  cases hq : lcg (l.filter fun q => !(q.1 == i) && (!(q.1 == i + 1) && !(q.1 + 1 == i && q.2.category == 2))) i with
  | none => rfl
  | some u =>
    have := (List.mem_filter.mp (lcg_mem hq)).2
    simp at this
/-- a step with fewer known locals is a step with more -/
theorem stp_sub {nL : Nat} {a : Nat → Option Int32} {b : Nat → Option Int64} {ins : Instr} {len pc : Nat} {l l' : Lc} {st : List Value} {t : Nx} (hu : Uq l) (h : Sub l l') (hs : stp nL a b ins len pc l st = some t) : Uq t.2.1 ∧ ∃ l2, stp nL a b ins len pc l' st = some (t.1, l2, t.2.2) ∧ Sub t.2.1 l2 := by
  have one : ∀ {n : Nat} {o o' : Option (List Value)}, nxt len n pc l o = some t → (∀ u, o = some u → o' = some u) → Uq t.2.1 ∧ ∃ l2, nxt len n pc l' o' = some (t.1, l2, t.2.2) ∧ Sub t.2.1 l2 := by
    intro n o o' h1 h2
    obtain ⟨rfl, t', h3, rfl⟩ := nxt_some h1
    exact ⟨hu, l', by rw [h2 _ h3]; simp [nxt], h⟩
  have jp : ∀ {off : Int} {c : Prop} {_ : Decidable c} {r : List Value}, jmp len pc off l c r = some t → Uq t.2.1 ∧ ∃ l2, jmp len pc off l' c r = some (t.1, l2, t.2.2) ∧ Sub t.2.1 l2 := by
    intro off c _ r h1
    unfold jmp at h1 ⊢
    split at h1
    · next hc =>
      rw [if_pos hc]
      split at h1
      · next hc2 => cases h1; exact ⟨hu, l', by rw [if_pos hc2], h⟩
      · next hc2 => cases h1; exact ⟨hu, l', by rw [if_neg hc2], h⟩
    · cases h1
  have li : ∀ {i : Nat} (u : List Value), ldI l i st = some u → ldI l' i st = some u := by
    intro i u h1; obtain ⟨x, h2, rfl⟩ := ldI_some h1; simp [ldI, h _ _ h2]
  have lj : ∀ {i : Nat} (u : List Value), ldJ l i st = some u → ldJ l' i st = some u := by
    intro i u h1; obtain ⟨x, h2, rfl⟩ := ldJ_some h1; simp [ldJ, h _ _ h2]
  have la : ∀ {i : Nat} (u : List Value), ldA l i st = some u → ldA l' i st = some u := by
    intro i u h1
    obtain ⟨v, h2, rfl, h3⟩ := ldA_some h1
    rcases h3 with rfl | ⟨x, rfl⟩ | ⟨x, rfl⟩
    · simp [ldA, h _ _ h2]
    · simp [ldA, h _ _ h2]
    · simp [ldA, h _ _ h2]
  cases ins <;> simp only [stp] at hs ⊢ <;> first | (cases hs; done) | (exact one hs (fun _ h => h)) | (exact one hs li) | (exact one hs lj) | (exact one hs la) | (exact jp hs) | skip
  case istore_n i => obtain ⟨x, r, rfl, rfl, hn, rfl⟩ := stI_some hs; exact ⟨hu.lc1, lc1 l' _ (.int x), by simp [stI, hn], h.lcf hu⟩
  case istore i => obtain ⟨x, r, rfl, rfl, hn, rfl⟩ := stI_some hs; exact ⟨hu.lc1, lc1 l' _ (.int x), by simp [stI, hn], h.lcf hu⟩
  case lstore_n i => obtain ⟨x, r, rfl, rfl, hn, rfl⟩ := stJ_some hs; exact ⟨hu.lc2, lc2 l' _ (.long x), by simp [stJ, hn], h.lcf hu⟩
  case lstore i => obtain ⟨x, r, rfl, rfl, hn, rfl⟩ := stJ_some hs; exact ⟨hu.lc2, lc2 l' _ (.long x), by simp [stJ, hn], h.lcf hu⟩
  case astore_n i =>
    obtain ⟨v, r, rfl, rfl, hn, rfl, rfl | ⟨x, rfl⟩⟩ := stA_some hs
    · exact ⟨hu.lc1, lc1 l' _ .null, by simp [stA, hn], h.lcf hu⟩
    · exact ⟨hu.lc1, lc1 l' _ (.ref x), by simp [stA, hn], h.lcf hu⟩
  case astore i =>
    obtain ⟨v, r, rfl, rfl, hn, rfl, rfl | ⟨x, rfl⟩⟩ := stA_some hs
    · exact ⟨hu.lc1, lc1 l' _ .null, by simp [stA, hn], h.lcf hu⟩
    · exact ⟨hu.lc1, lc1 l' _ (.ref x), by simp [stA, hn], h.lcf hu⟩
  case iinc i n =>
    unfold iincr at hs ⊢
    split at hs
    · next x hg =>
      split at hs
      · next hc =>
        cases hs
        exact ⟨hu.lc1, lc1 l' _ (.int (x + Int32.ofInt n)), by simp [h _ _ hg, hc], h.lcf hu⟩
      · cases hs
    · cases hs
  case ifCond cd off =>
    unfold ifZ at hs ⊢
    split at hs
    · cases cd <;> exact jp hs
    · cases hs
  case if_icmp cd off =>
    unfold ifC at hs ⊢
    split at hs
    · cases cd <;> exact jp hs
    · cases hs
  case ifnull off =>
    unfold ifN at hs ⊢
    split at hs
    · split at hs
      · next hc => cases hs; exact ⟨hu, l', by simp [hc], h⟩
      · cases hs
    · split at hs
      · next hc => cases hs; exact ⟨hu, l', by simp [hc], h⟩
      · cases hs
    · cases hs
  case tableswitch dflt lo hi offs =>
    split at hs
    · next x r =>
      split at hs
      · next hc =>
        rw [if_pos hc]
        split at hs
        · next h1 => cases hs; exact ⟨hu, l', by rw [if_pos h1], h⟩
        · next h1 =>
          obtain ⟨o, ho, rfl⟩ := Option.map_eq_some_iff.mp hs
          exact ⟨hu, l', by rw [if_neg h1, ho]; rfl, h⟩
      · cases hs
    · cases hs
  case lookupswitch dflt ps =>
    split at hs
    · next x r =>
      split at hs
      · next hc => cases hs; exact ⟨hu, l', by rw [if_pos hc], h⟩
      · cases hs
    · cases hs
theorem Rn_sub {xs : Nat → Int32} {L : Nat} {al : Bool} {C : Cr} {mid : Nat} : ∀ (n : Nat) {pc : Nat} {l l' : Lc} {st : List Value} {w : Wd} {r : Option Value} {w' : Wd}, Uq l → Sub l l' → Rn xs L al C mid n pc l st w r w' → Rn xs L al C mid n pc l' st w r w'
  | 0, _, _, _, _, _, _, _, _, _, h => h.elim
  | n + 1, pc, l, l', st, w, r, w', hu, hs, h => by
    obtain ⟨ins, len, hcd, ⟨t, h1, h⟩ | ⟨st1, w1, h1, h⟩ | ⟨m2, as, rest, r1, w1, h0, h1, h⟩ | h⟩ := h
    · obtain ⟨hu2, l2, g1, g2⟩ := stp_sub hu hs h1
      exact ⟨ins, len, hcd, Or.inl ⟨_, g1, Rn_sub n hu2 g2 h⟩⟩
    · exact ⟨ins, len, hcd, Or.inr (Or.inl ⟨st1, w1, h1, Rn_sub n hu hs h⟩)⟩
    · exact ⟨ins, len, hcd, Or.inr (Or.inr (Or.inl ⟨m2, as, rest, r1, w1, h0, h1, Rn_sub n hu hs h⟩))⟩
    · exact ⟨ins, len, hcd, Or.inr (Or.inr (Or.inr h))⟩
section ROWS
variable {xs : Nat → Int32} {L : Nat} {al : Bool} {C : Cr} {mid pc : Nat} {lv : Lc} {st rest : List Value} {w : Wd} {r : Option Value} {w' : Wd} {ins : Instr} {len : Nat}
theorem ev_of {d : Nat} {args : List Value} (h1 : mid < NM) (h2 : (lg_sl args).length ≤ mL mid) (h : RN xs L al (Ev xs L al d) mid 0 (lv_args 0 args) [] w r w') : Ev xs L al (d + 1) mid args w r w' := ⟨h1, h2, h⟩
/-- fewer locals, in any order -/
theorem rsub (l0 : Lc) (hu : Uq l0) (h : allP (fun q => lcg lv q.1 = some q.2) l0) (k : RN xs L al C mid pc l0 st w r w') : RN xs L al C mid pc lv st w r w' := by
  obtain ⟨n, k⟩ := k
  exact ⟨n, Rn_sub n hu (Sub.of h) k⟩
theorem rs {t : Nx} (h1 : cd mid pc = some (ins, len)) (h2 : stp (mL mid) (cI (mO mid)) (cJ (mO mid)) ins len pc lv st = some t) (k : RN xs L al C mid t.1 t.2.1 t.2.2 w r w') : RN xs L al C mid pc lv st w r w' := by
  obtain ⟨n, k⟩ := k
  exact ⟨n + 1, ins, len, h1, Or.inl ⟨t, h2, k⟩⟩
theorem rsn (n : Nat) {t : Nx} (h : stn mid n (pc, lv, st) = some t) (k : RN xs L al C mid t.1 t.2.1 t.2.2 w r w') : RN xs L al C mid pc lv st w r w' := by
  induction n generalizing pc lv st with
  | zero => cases h; exact k
  | succ n ih =>
    unfold stn at h
    split at h
    · cases h
    · next i hi =>
      split at h
      · cases h
      · next y hy => exact rs hi hy (ih h)
/-- a jump: taken, not taken -/
theorem rjt {c : Prop} {dc : Decidable c} {a b : Nx} (h1 : cd mid pc = some (ins, len)) (h2 : stp (mL mid) (cI (mO mid)) (cJ (mO mid)) ins len pc lv st = @ite _ c dc (some a) (some b)) (hc : c) (k : RN xs L al C mid a.1 a.2.1 a.2.2 w r w') : RN xs L al C mid pc lv st w r w' := rs h1 (by rw [h2, if_pos hc]) k
theorem rjf {c : Prop} {dc : Decidable c} {a b : Nx} (h1 : cd mid pc = some (ins, len)) (h2 : stp (mL mid) (cI (mO mid)) (cJ (mO mid)) ins len pc lv st = @ite _ c dc (some a) (some b)) (hc : ¬ c) (k : RN xs L al C mid b.1 b.2.1 b.2.2 w r w') : RN xs L al C mid pc lv st w r w' := rs h1 (by rw [h2, if_neg hc]) k
theorem rret (h1 : cd mid pc = some (ins, len)) (h2 : Rt mid ins len st w r w') : RN xs L al C mid pc lv st w r w' := ⟨1, ins, len, h1, Or.inr (Or.inr (Or.inr h2))⟩
theorem rm {st1 : List Value} {w1 : Wd} (h1 : cd mid pc = some (ins, len)) (h2 : Ms xs L al (mO mid) (mS mid == 2) ins len st w st1 w1) (k : RN xs L al C mid (pc + len) lv st1 w1 r w') : RN xs L al C mid pc lv st w r w' := by
  obtain ⟨n, k⟩ := k
  exact ⟨n + 1, ins, len, h1, Or.inr (Or.inl ⟨st1, w1, h2, k⟩)⟩
variable {i a c k0 : Nat}
theorem rgI (h1 : cd mid pc = some (.getfield i, 3)) (h2 : fl (mO mid) i = some (c, k0)) (h3 : (fty c k0 == 0 || fty c k0 == 3) = true) (hk : Kd w a c) (k : RN xs L al C mid (pc + 3) lv (.int (wI w a k0) :: rest) w r w') : RN xs L al C mid pc lv (.ref a :: rest) w r w' := by
  refine rm h1 ⟨rfl, rfl, Or.inl ⟨c, k0, a, rest, h2, rfl, hk, ?_⟩⟩ k
  simp only [Bool.or_eq_true, beq_iff_eq] at h3
  have e1 : fty c k0 ≠ 1 := by rcases h3 with h | h <;> omega
  have e2 : fty c k0 ≠ 2 := by rcases h3 with h | h <;> omega
  simp [gV, e1, e2]
theorem rgJ (h1 : cd mid pc = some (.getfield i, 3)) (h2 : fl (mO mid) i = some (c, k0)) (h3 : fty c k0 = 1) (hk : Kd w a c) (k : RN xs L al C mid (pc + 3) lv (.long (wJ w a k0) :: rest) w r w') : RN xs L al C mid pc lv (.ref a :: rest) w r w' :=
  rm h1 ⟨rfl, rfl, Or.inl ⟨c, k0, a, rest, h2, rfl, hk, by simp [gV, h3]⟩⟩ k
theorem rgR {t : Nat} (h1 : cd mid pc = some (.getfield i, 3)) (h2 : fl (mO mid) i = some (c, k0)) (h3 : fty c k0 = 2) (hk : Kd w a c) (ht : wR w a k0 = some t) (k : RN xs L al C mid (pc + 3) lv (.ref t :: rest) w r w') : RN xs L al C mid pc lv (.ref a :: rest) w r w' :=
  rm h1 ⟨rfl, rfl, Or.inl ⟨c, k0, a, rest, h2, rfl, hk, by simp [gV, h3, ht, rfv]⟩⟩ k
theorem rgN (h1 : cd mid pc = some (.getfield i, 3)) (h2 : fl (mO mid) i = some (c, k0)) (h3 : fty c k0 = 2) (hk : Kd w a c) (ht : wR w a k0 = none) (k : RN xs L al C mid (pc + 3) lv (.null :: rest) w r w') : RN xs L al C mid pc lv (.ref a :: rest) w r w' :=
  rm h1 ⟨rfl, rfl, Or.inl ⟨c, k0, a, rest, h2, rfl, hk, by simp [gV, h3, ht, rfv]⟩⟩ k
theorem rpI {x : Int32} (h1 : cd mid pc = some (.putfield i, 3)) (h2 : fl (mO mid) i = some (c, k0)) (h3 : fty c k0 = 0) (hf : fin c k0 = false ∨ (fin c k0 = true ∧ (mS mid == 2) = true ∧ c = mO mid)) (hk : Kd w a c) (k : RN xs L al C mid (pc + 3) lv rest (uI w a k0 x) r w') : RN xs L al C mid pc lv (.int x :: .ref a :: rest) w r w' :=
  rm h1 ⟨rfl, c, k0, a, rest, .int x, h2, rfl, hk, hf, by simp [pV, h3], rfl⟩ k
theorem rpZ {x : Int32} (h1 : cd mid pc = some (.putfield i, 3)) (h2 : fl (mO mid) i = some (c, k0)) (h3 : fty c k0 = 3) (hf : fin c k0 = false ∨ (fin c k0 = true ∧ (mS mid == 2) = true ∧ c = mO mid)) (hk : Kd w a c) (hx : x = 0 ∨ x = 1) (k : RN xs L al C mid (pc + 3) lv rest (uI w a k0 x) r w') : RN xs L al C mid pc lv (.int x :: .ref a :: rest) w r w' :=
  rm h1 ⟨rfl, c, k0, a, rest, .int x, h2, rfl, hk, hf, by simp [pV, h3, hx], rfl⟩ k
theorem rpJ {x : Int64} (h1 : cd mid pc = some (.putfield i, 3)) (h2 : fl (mO mid) i = some (c, k0)) (h3 : fty c k0 = 1) (hf : fin c k0 = false ∨ (fin c k0 = true ∧ (mS mid == 2) = true ∧ c = mO mid)) (hk : Kd w a c) (k : RN xs L al C mid (pc + 3) lv rest (uJ w a k0 x) r w') : RN xs L al C mid pc lv (.long x :: .ref a :: rest) w r w' :=
  rm h1 ⟨rfl, c, k0, a, rest, .long x, h2, rfl, hk, hf, by simp [pV, h3], rfl⟩ k
theorem rpR {t : Nat} (h1 : cd mid pc = some (.putfield i, 3)) (h2 : fl (mO mid) i = some (c, k0)) (h3 : fty c k0 = 2) (hf : fin c k0 = false ∨ (fin c k0 = true ∧ (mS mid == 2) = true ∧ c = mO mid)) (hk : Kd w a c) (k : RN xs L al C mid (pc + 3) lv rest (uR w a k0 (some t)) r w') : RN xs L al C mid pc lv (.ref t :: .ref a :: rest) w r w' :=
  rm h1 ⟨rfl, c, k0, a, rest, .ref t, h2, rfl, hk, hf, by simp [pV, h3], rfl⟩ k
theorem rpN (h1 : cd mid pc = some (.putfield i, 3)) (h2 : fl (mO mid) i = some (c, k0)) (h3 : fty c k0 = 2) (hf : fin c k0 = false ∨ (fin c k0 = true ∧ (mS mid == 2) = true ∧ c = mO mid)) (hk : Kd w a c) (k : RN xs L al C mid (pc + 3) lv rest (uR w a k0 none) r w') : RN xs L al C mid pc lv (.null :: .ref a :: rest) w r w' :=
  rm h1 ⟨rfl, c, k0, a, rest, .null, h2, rfl, hk, hf, by simp [pV, h3], rfl⟩ k
variable {j : Int32}
theorem rxI (h1 : cd mid pc = some (.iaload, 1)) (hk : Kd w a 12) {n : Nat} (hn : wL w a = n) (hj : ¬ (j < 0 ∨ n ≤ j.toNatClampNeg)) (k : RN xs L al C mid (pc + 1) lv (.int (wX w a j.toNatClampNeg) :: rest) w r w') : RN xs L al C mid pc lv (.int j :: .ref a :: rest) w r w' :=
  rm h1 ⟨rfl, rfl, Or.inl ⟨a, rest, j, rfl, hk, by rw [hn]; exact hj, rfl⟩⟩ k
theorem rxJ (h1 : cd mid pc = some (.laload, 1)) (hk : Kd w a 13) {n : Nat} (hn : wL w a = n) (hj : ¬ (j < 0 ∨ n ≤ j.toNatClampNeg)) (k : RN xs L al C mid (pc + 1) lv (.long (wY w a j.toNatClampNeg) :: rest) w r w') : RN xs L al C mid pc lv (.int j :: .ref a :: rest) w r w' :=
  rm h1 ⟨rfl, rfl, a, rest, j, rfl, hk, by rw [hn]; exact hj, rfl⟩ k
theorem rxB (h1 : cd mid pc = some (.baload, 1)) (hk : Kd w a 11 ∨ Kd w a 14) {n : Nat} (hn : wL w a = n) (hj : ¬ (j < 0 ∨ n ≤ j.toNatClampNeg)) (k : RN xs L al C mid (pc + 1) lv (.int (wX w a j.toNatClampNeg) :: rest) w r w') : RN xs L al C mid pc lv (.int j :: .ref a :: rest) w r w' :=
  rm h1 ⟨rfl, rfl, Or.inl ⟨a, rest, j, rfl, hk, by rw [hn]; exact hj, rfl⟩⟩ k
theorem rxA {t : Nat} (h1 : cd mid pc = some (.aaload, 1)) (hk : Kd w a 15 ∨ Kd w a 16) {n : Nat} (hn : wL w a = n) (hj : ¬ (j < 0 ∨ n ≤ j.toNatClampNeg)) (ht : wZ w a j.toNatClampNeg = some t) (k : RN xs L al C mid (pc + 1) lv (.ref t :: rest) w r w') : RN xs L al C mid pc lv (.int j :: .ref a :: rest) w r w' :=
  rm h1 ⟨rfl, rfl, a, rest, j, rfl, hk, by rw [hn]; exact hj, by rw [ht]; rfl⟩ k
theorem rxL (h1 : cd mid pc = some (.arraylength, 1)) (hk : Kd w a c) (hc : 11 ≤ c) {n : Nat} (hn : wL w a = n) (k : RN xs L al C mid (pc + 1) lv (.int (Int32.ofNat n) :: rest) w r w') : RN xs L al C mid pc lv (.ref a :: rest) w r w' :=
  rm h1 ⟨rfl, rfl, Or.inl ⟨a, rest, c, rfl, hk, hc, by rw [hn]⟩⟩ k
theorem rsI {x : Int32} (h1 : cd mid pc = some (.iastore, 1)) (hk : Kd w a 12) {n : Nat} (hn : wL w a = n) (hj : ¬ (j < 0 ∨ n ≤ j.toNatClampNeg)) (k : RN xs L al C mid (pc + 1) lv rest (uX w a j.toNatClampNeg x) r w') : RN xs L al C mid pc lv (.int x :: .int j :: .ref a :: rest) w r w' :=
  rm h1 ⟨rfl, a, rest, j, x, rfl, hk, by rw [hn]; exact hj, rfl, rfl⟩ k
theorem rsJ {x : Int64} (h1 : cd mid pc = some (.lastore, 1)) (hk : Kd w a 13) {n : Nat} (hn : wL w a = n) (hj : ¬ (j < 0 ∨ n ≤ j.toNatClampNeg)) (k : RN xs L al C mid (pc + 1) lv rest (uY w a j.toNatClampNeg x) r w') : RN xs L al C mid pc lv (.long x :: .int j :: .ref a :: rest) w r w' :=
  rm h1 ⟨rfl, a, rest, j, x, rfl, hk, by rw [hn]; exact hj, rfl, rfl⟩ k
theorem rsB {x : Int32} (h1 : cd mid pc = some (.bastore, 1)) (hk : Kd w a 11) {n : Nat} (hn : wL w a = n) (hj : ¬ (j < 0 ∨ n ≤ j.toNatClampNeg)) (k : RN xs L al C mid (pc + 1) lv rest (uX w a j.toNatClampNeg x.toInt8.toInt32) r w') : RN xs L al C mid pc lv (.int x :: .int j :: .ref a :: rest) w r w' :=
  rm h1 ⟨rfl, a, rest, j, x, .byte, rfl, Or.inl ⟨hk, rfl⟩, by rw [hn]; exact hj, rfl, by rw [vp_nar_byte]⟩ k
theorem rsZ {x : Int32} (h1 : cd mid pc = some (.bastore, 1)) (hk : Kd w a 14) {n : Nat} (hn : wL w a = n) (hj : ¬ (j < 0 ∨ n ≤ j.toNatClampNeg)) (k : RN xs L al C mid (pc + 1) lv rest (uX w a j.toNatClampNeg (vp_nar .boolean x)) r w') : RN xs L al C mid pc lv (.int x :: .int j :: .ref a :: rest) w r w' :=
  rm h1 ⟨rfl, a, rest, j, x, .boolean, rfl, Or.inr ⟨hk, rfl⟩, by rw [hn]; exact hj, rfl, rfl⟩ k
variable {m2 : Nat} {as : List Value} {r1 : Option Value} {w1 : Wd}
theorem rcl (h1 : cd mid pc = some (ins, 3)) (h2 : Cs (mO mid) ins 3 st w m2 as rest) (hc : C m2 as w r1 w1) (k : RN xs L al C mid (pc + 3) lv (r1.toList ++ rest) w1 r w') : RN xs L al C mid pc lv st w r w' := by
  obtain ⟨n, k⟩ := k
  exact ⟨n + 1, ins, 3, h1, Or.inr (Or.inr (Or.inl ⟨m2, as, rest, r1, w1, h2, hc, k⟩))⟩
/-- static; of an object; of a String constant -/
theorem rcS (m2 : Nat) (as : List Value) (h1 : cd mid pc = some (.invokestatic i, 3)) (h2 : ml (mO mid) i = some m2) (h3 : (decide (m2 < NM) && mS m2 == 0 && as.length == mA m2) = true) (h4 : cats rest ≤ 8) (hs : st = as.reverse ++ rest) (hc : C m2 as w r1 w1) (k : RN xs L al C mid (pc + 3) lv (r1.toList ++ rest) w1 r w') : RN xs L al C mid pc lv st w r w' := by
  simp only [Bool.and_eq_true, decide_eq_true_eq, beq_iff_eq] at h3
  exact rcl h1 ⟨rfl, h3.1.1, hs, h4, h2, h3.1.2, h3.2⟩ hc k
theorem rcV (m2 a : Nat) (as : List Value) (h1 : cd mid pc = some (.invokevirtual i, 3)) (h2 : ml (mO mid) i = some m2) (h3 : (decide (m2 < NM) && mS m2 == 1 && as.length == mA m2 && decide (mO m2 < 11)) = true) (hk : Kd w a (mO m2)) (h4 : cats rest ≤ 8) (hs : st = (.ref a :: as).reverse ++ rest) (hc : C m2 (.ref a :: as) w r1 w1) (k : RN xs L al C mid (pc + 3) lv (r1.toList ++ rest) w1 r w') : RN xs L al C mid pc lv st w r w' := by
  simp only [Bool.and_eq_true, decide_eq_true_eq, beq_iff_eq] at h3
  exact rcl h1 ⟨rfl, h3.1.1.1, hs, h4, h2, h3.1.1.2, _, _, rfl, h3.1.2, Or.inl ⟨a, rfl, h3.2, hk⟩⟩ hc k
theorem rcQ (m2 q : Nat) (as : List Value) (h1 : cd mid pc = some (.invokevirtual i, 3)) (h2 : ml (mO mid) i = some m2) (h3 : (decide (m2 < NM) && mS m2 == 1 && as.length == mA m2 && mO m2 == 16) = true) (hq : q < 8) (h4 : cats rest ≤ 8) (hs : st = (.retAddr q :: as).reverse ++ rest) (hc : C m2 (.retAddr q :: as) w r1 w1) (k : RN xs L al C mid (pc + 3) lv (r1.toList ++ rest) w1 r w') : RN xs L al C mid pc lv st w r w' := by
  simp only [Bool.and_eq_true, decide_eq_true_eq, beq_iff_eq] at h3
  exact rcl h1 ⟨rfl, h3.1.1.1, hs, h4, h2, h3.1.1.2, _, _, rfl, h3.1.2, Or.inr ⟨q, rfl, hq, h3.2⟩⟩ hc k
theorem rcI (m2 a : Nat) (as : List Value) (h1 : cd mid pc = some (.invokespecial i, 3)) (h2 : ml (mO mid) i = some m2) (h3 : (decide (m2 < NM) && mS m2 == 2 && as.length == mA m2) = true) (h4 : cats rest ≤ 8) (hs : st = (.ref a :: as).reverse ++ rest) (hc : C m2 (.ref a :: as) w r1 w1) (k : RN xs L al C mid (pc + 3) lv (r1.toList ++ rest) w1 r w') : RN xs L al C mid pc lv st w r w' := by
  simp only [Bool.and_eq_true, decide_eq_true_eq, beq_iff_eq] at h3
  exact rcl h1 ⟨rfl, h3.1.1, hs, h4, h2, h3.1.2, a, as, rfl, h3.2⟩ hc k
end ROWS
