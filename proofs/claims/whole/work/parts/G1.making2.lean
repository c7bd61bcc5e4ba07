/-! MAKING: the runs. -/
def xms (o : Nat) (ini : Bool) (ins : Instr) (len : Nat) (st : List Value) (q : Qs) : Option (List Value × Qs) := match ins with
  | .getfield i => match fl o i, st with
    | some (c, k), .ref a :: r => if len = 3 ∧ mkK q a = some c ∧ c < 11 then some ((if fty c k = 1 then .long 0 else if fty c k = 2 then rfv (mkR q a k) else .int (mkI q a k)) :: r, q) else none
    | _, _ => none
  | .putfield i => match fl o i, st with
    | some (c, k), .int x :: .ref a :: r => if len = 3 ∧ mkK q a = some c ∧ c < 11 ∧ (fin c k = false ∨ (fin c k = true ∧ ini = true ∧ c = o)) ∧ (fty c k = 0 ∨ (fty c k = 3 ∧ (x = 0 ∨ x = 1))) then some (r, qPI q a k x) else none
    | some (c, k), .ref t :: .ref a :: r => if len = 3 ∧ mkK q a = some c ∧ c < 11 ∧ (fin c k = false ∨ (fin c k = true ∧ ini = true ∧ c = o)) ∧ fty c k = 2 then some (r, qPR q a k (some t)) else none
    | some (c, k), .null :: .ref a :: r => if len = 3 ∧ mkK q a = some c ∧ c < 11 ∧ (fin c k = false ∨ (fin c k = true ∧ ini = true ∧ c = o)) ∧ fty c k = 2 then some (r, qPR q a k none) else none
    | _, _ => none
  | .newarray t => match akd t, st with
    | some k, .int n :: r => if len = 2 ∧ ¬ n < 0 ∧ n.toNatClampNeg * abt k ≤ 536870912 ∧ 11 ≤ k ∧ (mkT q = 0 ∨ (mkT q = 1 ∧ mkN q = 29) ∨ 30 ≤ mkN q) then some (.ref (mkN q) :: r, qNA q k n.toNatClampNeg) else none
    | _, _ => none
  | .anewarray i => match cak o i, st with
    | some k, .int n :: r => if len = 3 ∧ ¬ n < 0 ∧ n.toNatClampNeg * 4 ≤ 536870912 ∧ 11 ≤ k ∧ (mkT q = 0 ∨ (mkT q = 1 ∧ mkN q = 29) ∨ 30 ≤ mkN q) then some (.ref (mkN q) :: r, qNA q k n.toNatClampNeg) else none
    | _, _ => none
  | .new i => match clk o i with
    | some c => match vwCl[c]? with
      | some r => if len = 3 ∧ c < 11 then some (.ref (mkN q) :: st, qNO q c r.2.2) else none
      | none => none
    | none => none
  | .aastore => match st with
    | .ref v :: .int i :: .ref a :: r => match mkL q a with
      | some n => if len = 1 ∧ ((mkK q a = some 15 ∧ mkK q v = some 1) ∨ (mkK q a = some 16 ∧ mkK q v = some 5)) ∧ ¬ (i < 0 ∨ n ≤ i.toNatClampNeg) then some (r, qPZ q a i.toNatClampNeg (some v)) else none
      | none => none
    | _ => none
  | .aaload => match st with
    | .int i :: .ref a :: r => match mkL q a with
      | some n => if len = 1 ∧ (mkK q a = some 15 ∨ mkK q a = some 16) ∧ ¬ (i < 0 ∨ n ≤ i.toNatClampNeg) then some (rfv (mkZ q a i.toNatClampNeg) :: r, q) else none
      | none => none
    | _ => none
  | .arraylength => match st with
    | .ref a :: r => match mkK q a, mkL q a with
      | some c, some n => if len = 1 ∧ 11 ≤ c then some (.int (Int32.ofNat n) :: r, q) else none
      | _, _ => none
    | _ => none
  | .invokespecial i => match oin o i, st with
    | some _, .ref _ :: r => if len = 3 ∧ cats r ≤ 8 then some (r, q) else none
    | _, _ => none
  | _ => none
def xcs (o : Nat) (ins : Instr) (len : Nat) (st : List Value) : Option (Nat × List Value × List Value) := match ins with
  | .invokespecial i => match ml o i with
    | some m2 => match st.drop (mA m2) with
      | .ref a :: rest => if len = 3 ∧ m2 < NM ∧ mS m2 = 2 ∧ (st.take (mA m2)).length = mA m2 ∧ cats rest ≤ 8 then some (m2, .ref a :: (st.take (mA m2)).reverse, rest) else none
      | _ => none
    | none => none
  | .invokestatic i => match ml o i with
    | some m2 => if len = 3 ∧ m2 < NM ∧ mS m2 = 0 ∧ (st.take (mA m2)).length = mA m2 ∧ cats (st.drop (mA m2)) ≤ 8 then some (m2, (st.take (mA m2)).reverse, st.drop (mA m2)) else none
    | none => none
  | _ => none
abbrev Xc : Type := Nat → List Value → Qs → Option (Option Value × Qs)
def xrt (mid : Nat) (ins : Instr) (len : Nat) (st : List Value) (q : Qs) : Option (Option Value × Qs) := match ins, st with
  | .return_, [] => if len = 1 ∧ mT mid = none then some (none, q) else none
  | _, _ => none
def xrn (call : Xc) (mid : Nat) : Nat → Nat → Lc → List Value → Qs → Option (Option Value × Qs)
  | 0, _, _, _, _ => none
  | n + 1, pc, lv, st, q => match cd mid pc with
    | none => none
    | some i => match stp (mL mid) (cI (mO mid)) (cJ (mO mid)) i.1 i.2 pc lv st with
      | some t => xrn call mid n t.1 t.2.1 t.2.2 q
      | none => match xms (mO mid) (mS mid == 2) i.1 i.2 st q with
        | some s1 => xrn call mid n (pc + i.2) lv s1.1 s1.2
        | none => match xcs (mO mid) i.1 i.2 st with
          | some c => match call c.1 c.2.1 q with
            | some r1 => xrn call mid n (pc + 3) lv (r1.1.toList ++ c.2.2) r1.2
            | none => none
          | none => xrt mid i.1 i.2 st q
def xev (orc : Xc) (fuel : Nat) : Nat → Xc
  | 0, _, _, _ => none
  | d + 1, mid, as, q => match orc mid as q with
    | some r => if 5 ≤ d then some r else none
    | none => if mid < NM ∧ (lg_sl as).length ≤ mL mid then xrn (xev orc fuel d) mid fuel 0 (lv_args 0 as) [] q else none
section MAKING2
variable {I : IxP} {xs : Nat → Int32} {L : Nat}
theorem xms_ok (hA : IxA I) {o : Nat} {ini : Bool} {ins : Instr} {len : Nat} {st st' : List Value} {q q' : Qs} {w : Wd} (h : xms o ini ins len st q = some (st', q')) (hr : Rep I q w) : ∃ w', Ms xs L true o ini ins len st w st' w' ∧ Rep I q' w' := by
  cases ins <;> simp only [xms] at h <;> first | (cases h; done) | skip
  case getfield i =>
    split at h
    · next c k a r hf =>
      split at h
      · next hc =>
        obtain ⟨h1, h2, h3⟩ := hc
        have he := Prod.mk.inj (Option.some.inj h)
        obtain ⟨rfl, rfl⟩ := he
        obtain ⟨g1, g2, g3⟩ := hr.2.2.2.1 a c k h2 h3
        refine ⟨w, ⟨h1, rfl, Or.inl ⟨c, k, a, r, hf, rfl, hr.kd h2, ?_⟩⟩, hr⟩
        unfold gV
        rw [g1, g2, g3]
      · cases h
    · cases h
  case putfield i =>
    split at h
    · next c k x a r hf =>
      split at h
      · next hc =>
        obtain ⟨h1, h2, h3, h4, h5⟩ := hc
        obtain ⟨rfl, rfl⟩ := Prod.mk.inj (Option.some.inj h)
        exact ⟨uI w a k x, ⟨h1, c, k, a, r, .int x, hf, rfl, hr.kd h2, h4, by simp only [pV]; rw [if_pos h5], rfl⟩, Rep_PI (hr.2.1 a c h2).1 hr⟩
      · cases h
    · next c k t a r hf =>
      split at h
      · next hc =>
        obtain ⟨h1, h2, h3, h4, h5⟩ := hc
        obtain ⟨rfl, rfl⟩ := Prod.mk.inj (Option.some.inj h)
        exact ⟨uR w a k (some t), ⟨h1, c, k, a, r, .ref t, hf, rfl, hr.kd h2, h4, by simp only [pV]; rw [if_pos h5], rfl⟩, Rep_PR (hr.2.1 a c h2).1 hr⟩
      · cases h
    · next c k a r hf =>
      split at h
      · next hc =>
        obtain ⟨h1, h2, h3, h4, h5⟩ := hc
        obtain ⟨rfl, rfl⟩ := Prod.mk.inj (Option.some.inj h)
        exact ⟨uR w a k none, ⟨h1, c, k, a, r, .null, hf, rfl, hr.kd h2, h4, by simp only [pV]; rw [if_pos h5], rfl⟩, Rep_PR (hr.2.1 a c h2).1 hr⟩
      · cases h
    · cases h
  case newarray t =>
    split at h
    · next k n r hf =>
      split at h
      · next hc =>
        obtain ⟨h1, h2, h3, h4, h5⟩ := hc
        obtain ⟨rfl, rfl⟩ := Prod.mk.inj (Option.some.inj h)
        exact ⟨nA w k n.toNatClampNeg, ⟨rfl, h1, n, r, k, rfl, hf, h2, h3, by rw [hr.1.1], rfl⟩, Rep_NA hA h4 h5 hr⟩
      · cases h
    · cases h
  case anewarray i =>
    split at h
    · next k n r hf =>
      split at h
      · next hc =>
        obtain ⟨h1, h2, h3, h4, h5⟩ := hc
        obtain ⟨rfl, rfl⟩ := Prod.mk.inj (Option.some.inj h)
        exact ⟨nA w k n.toNatClampNeg, ⟨rfl, h1, n, r, k, rfl, hf, h2, h3, by rw [hr.1.1], rfl⟩, Rep_NA hA h4 h5 hr⟩
      · cases h
    · cases h
  case new i =>
    split at h
    · next c hf =>
      split at h
      · next r hv =>
        split at h
        · next hc =>
          obtain ⟨rfl, rfl⟩ := Prod.mk.inj (Option.some.inj h)
          exact ⟨nO w c r.2.2, ⟨rfl, hc.1, c, r, hf, hv, by rw [hr.1.1], rfl⟩, Rep_NO hc.2 hr⟩
        · cases h
      · cases h
    · cases h
  case aastore =>
    split at h
    · next v i a r =>
      split at h
      · next n hn =>
        split at h
        · next hc =>
          obtain ⟨h1, h2, h3⟩ := hc
          obtain ⟨rfl, rfl⟩ := Prod.mk.inj (Option.some.inj h)
          have hl := hr.2.2.1 a n hn
          exact ⟨uZ w a i.toNatClampNeg (some v), ⟨h1, a, r, i, v, rfl, h2.imp (fun y => ⟨hr.kd y.1, hr.kd y.2⟩) (fun y => ⟨hr.kd y.1, hr.kd y.2⟩), by rw [hl.2]; exact h3, rfl, rfl⟩, Rep_PZ hl.1 hr⟩
        · cases h
      · cases h
    · cases h
  case aaload =>
    split at h
    · next i a r =>
      split at h
      · next n hn =>
        split at h
        · next hc =>
          obtain ⟨h1, h2, h3⟩ := hc
          obtain ⟨rfl, rfl⟩ := Prod.mk.inj (Option.some.inj h)
          have hl := hr.2.2.1 a n hn
          refine ⟨w, ⟨h1, rfl, a, r, i, rfl, h2.imp hr.kd hr.kd, by rw [hl.2]; exact h3, ?_⟩, hr⟩
          have : wZ w a i.toNatClampNeg = mkZ q a i.toNatClampNeg := by
            rcases h2 with y | y
            · exact hr.2.2.2.2.1 a 15 _ y (by omega)
            · exact hr.2.2.2.2.1 a 16 _ y (by omega)
          rw [this]
        · cases h
      · cases h
    · cases h
  case arraylength =>
    split at h
    · next a r =>
      split at h
      · next c n hk hn =>
        split at h
        · next hc =>
          obtain ⟨rfl, rfl⟩ := Prod.mk.inj (Option.some.inj h)
          have hl := hr.2.2.1 a n hn
          exact ⟨w, ⟨hc.1, rfl, Or.inl ⟨a, r, c, rfl, hr.kd hk, hc.2, by rw [hl.2]⟩⟩, hr⟩
        · cases h
      · cases h
    · cases h
  case invokespecial i =>
    split at h
    · next z a r hf =>
      split at h
      · next hc =>
        obtain ⟨rfl, rfl⟩ := Prod.mk.inj (Option.some.inj h)
        exact ⟨w, ⟨hc.1, rfl, a, z, hf, hc.2, rfl⟩, hr⟩
      · cases h
    · cases h
theorem xcs_ok {o : Nat} {ins : Instr} {len : Nat} {st as rest : List Value} {m2 : Nat} {w : Wd} (h : xcs o ins len st = some (m2, as, rest)) : Cs o ins len st w m2 as rest := by
  cases ins <;> simp only [xcs] at h <;> first | (cases h; done) | skip
  case invokespecial i =>
    split at h
    · next m3 hm =>
      split at h
      · next a r hd =>
        split at h
        · next hc =>
          obtain ⟨h1, h2, h3, h4, h5⟩ := hc
          have he := Prod.mk.inj (Option.some.inj h)
          obtain ⟨rfl, he2⟩ := he
          obtain ⟨rfl, rfl⟩ := Prod.mk.inj he2
          refine ⟨h1, h2, ?_, h5, hm, h3, a, _, rfl, by rw [List.length_reverse]; exact h4⟩
          rw [List.reverse_cons, List.reverse_reverse, List.append_assoc]
          show st = st.take (mA m3) ++ (.ref a :: r)
          rw [← hd, List.take_append_drop]
        · cases h
      · cases h
    · cases h
  case invokestatic i =>
    split at h
    · next m3 hm =>
      split at h
      · next hc =>
        obtain ⟨h1, h2, h3, h4, h5⟩ := hc
        obtain ⟨rfl, he2⟩ := Prod.mk.inj (Option.some.inj h)
        obtain ⟨rfl, rfl⟩ := Prod.mk.inj he2
        refine ⟨h1, h2, ?_, h5, hm, h3, by rw [List.length_reverse]; exact h4⟩
        rw [List.reverse_reverse, List.take_append_drop]
      · cases h
    · cases h
theorem xrn_ok (hA : IxA I) {C : Cr} {call : Xc} {mid : Nat} (hcall : ∀ m2 as q r q' w, call m2 as q = some (r, q') → Rep I q w → ∃ w', C m2 as w r w' ∧ Rep I q' w') : ∀ (n pc : Nat) (lv : Lc) (st : List Value) (q : Qs) (r : Option Value) (q' : Qs) (w : Wd), xrn call mid n pc lv st q = some (r, q') → Rep I q w → ∃ w', Rn xs L true C mid n pc lv st w r w' ∧ Rep I q' w' := by
  intro n
  induction n with
  | zero => intro pc lv st q r q' w h; cases h
  | succ n ih =>
    intro pc lv st q r q' w h hr
    rw [xrn] at h
    split at h
    · cases h
    · next i hi =>
      split at h
      · next t ht =>
        obtain ⟨w', k1, k2⟩ := ih _ _ _ _ _ _ w h hr
        exact ⟨w', ⟨i.1, i.2, hi, Or.inl ⟨t, ht, k1⟩⟩, k2⟩
      · split at h
        · next s1 hs =>
          obtain ⟨w1, k1, k2⟩ := xms_ok (xs := xs) (L := L) hA (st' := s1.1) (q' := s1.2) hs hr
          obtain ⟨w', k3, k4⟩ := ih _ _ _ _ _ _ w1 h k2
          exact ⟨w', ⟨i.1, i.2, hi, Or.inr (Or.inl ⟨s1.1, w1, k1, k3⟩)⟩, k4⟩
        · split at h
          · next c hc =>
            split at h
            · next r1 h1 =>
              obtain ⟨w1, k1, k2⟩ := hcall c.1 c.2.1 q r1.1 r1.2 w h1 hr
              obtain ⟨w', k3, k4⟩ := ih _ _ _ _ _ _ w1 h k2
              exact ⟨w', ⟨i.1, i.2, hi, Or.inr (Or.inr (Or.inl ⟨c.1, c.2.1, c.2.2, r1.1, w1, xcs_ok hc, k1, k3⟩))⟩, k4⟩
            · cases h
          · unfold xrt at h
            split at h
            · next he1 _ _ _ =>
              split at h
              · next hc =>
                obtain ⟨rfl, rfl⟩ := Prod.mk.inj (Option.some.inj h)
                refine ⟨w, ⟨i.1, i.2, hi, Or.inr (Or.inr (Or.inr ⟨rfl, hc.1, ?_⟩))⟩, hr⟩
                rw [he1]
                exact ⟨rfl, rfl, hc.2⟩
              · cases h
            · cases h
theorem xev_ok (hA : IxA I) {orc : Xc} {fuel : Nat} (horc : ∀ d m2 as q r q' w, 6 ≤ d → orc m2 as q = some (r, q') → Rep I q w → ∃ w', Ev xs L true d m2 as w r w' ∧ Rep I q' w') : ∀ (d m2 : Nat) (as : List Value) (q : Qs) (r : Option Value) (q' : Qs) (w : Wd), xev orc fuel d m2 as q = some (r, q') → Rep I q w → ∃ w', Ev xs L true d m2 as w r w' ∧ Rep I q' w' := by
  intro d
  induction d with
  | zero => intro m2 as q r q' w h; cases h
  | succ d ih =>
    intro m2 as q r q' w h hr
    rw [xev] at h
    split at h
    · next r0 h0 =>
      split at h
      · next hd =>
        have : r0 = (r, q') := Option.some.inj h
        subst this
        exact horc (d + 1) m2 as q r q' w (by omega) h0 hr
      · cases h
    · split at h
      · next hc =>
        obtain ⟨w', k1, k2⟩ := xrn_ok (xs := xs) (L := L) hA (C := Ev xs L true d) (fun m2 as q r q' w h hr => ih m2 as q r q' w h hr) fuel 0 _ _ _ _ _ w h hr
        exact ⟨w', ⟨hc.1, hc.2, fuel, k1⟩, k2⟩
      · cases h
end MAKING2
