/-! RUNS of the methods over the memory. -/
def sLen : List Nat := [4, 4, 3, 5, 5, 4, 4, 4]
def sByt : List (List Int32) := [[104, 101, 105, 114], [108, 97, 116, 101], [100, 97, 121], [116, 104, 105, 110, 103], [99, 111, 109, 101, 115], [110, 111, 110, 101], [104, 111, 108, 100], [98, 97, 99, 107]]
def sIx (i : Nat) : Nat := ([142, 148, 150, 152, 154, 156, 158, 160] : List Nat).getD i 0
def sTx (i : Nat) : String := (["heir", "late", "day", "thing", "comes", "none", "hold", "back"] : List String).getD i ""
/-- the String constant that index i of class o names -/
def sst (o i : Nat) : Option Nat := if o = 10 then lk [(142, 0), (148, 1), (150, 2), (152, 3), (154, 4), (156, 5), (158, 6), (160, 7)] i else none
theorem sst_ok {o i q : Nat} (h : sst o i = some q) : o = 10 ∧ q < 8 ∧ sIx q = i := by
  unfold sst at h
  split at h
  · next ho =>
    refine ⟨ho, ?_⟩
    have := lk_mem h
    simp only [List.mem_cons, List.not_mem_nil, or_false, Prod.mk.injEq] at this
    rcases this with ⟨rfl, rfl⟩ | ⟨rfl, rfl⟩ | ⟨rfl, rfl⟩ | ⟨rfl, rfl⟩ | ⟨rfl, rfl⟩ | ⟨rfl, rfl⟩ | ⟨rfl, rfl⟩ | ⟨rfl, rfl⟩ <;> exact ⟨by omega, rfl⟩
  · cases h
/-- is field k of class c final -/
def fin (c k : Nat) : Bool := match vwCl[c]? with
  | some r => (r.2.1 k).2.2.2
  | none => false
def cats (r : List Value) : Nat := (r.map fun v => v.category).sum
/-- one instruction that touches memory, in a method of class o (ini: a constructor); xs, L: the script -/
def Ms (xs : Nat → Int32) (L : Nat) (al : Bool) (o : Nat) (ini : Bool) (ins : Instr) (len : Nat) (st : List Value) (w : Wd) (st' : List Value) (w' : Wd) : Prop := match ins with
  | .getfield i => len = 3 ∧ w' = w ∧ ((∃ c k a r, fl o i = some (c, k) ∧ st = .ref a :: r ∧ Kd w a c ∧ st' = gV w a c k :: r) ∨ (∃ q r, q < 8 ∧ st = .retAddr q :: r ∧ o = 16 ∧ ((i = 9 ∧ st' = .retAddr (100 + q) :: r) ∨ (i = 15 ∧ st' = .int 0 :: r))))
  | .putfield i => len = 3 ∧ ∃ c k a r v, fl o i = some (c, k) ∧ st = v :: .ref a :: r ∧ Kd w a c ∧ (fin c k = false ∨ (fin c k = true ∧ ini = true ∧ c = o)) ∧ pV w a c k v = some w' ∧ st' = r
  | .iaload => len = 1 ∧ w' = w ∧ ((∃ a r i, st = .int i :: .ref a :: r ∧ Kd w a 12 ∧ vp_in i (wL w a) ∧ st' = .int (wX w a i.toNatClampNeg) :: r) ∨ (∃ r i, st = .int i :: .retAddr 1000 :: r ∧ vp_in i L ∧ st' = .int (xs i.toNatClampNeg) :: r))
  | .laload => len = 1 ∧ w' = w ∧ ∃ a r i, st = .int i :: .ref a :: r ∧ Kd w a 13 ∧ vp_in i (wL w a) ∧ st' = .long (wY w a i.toNatClampNeg) :: r
  | .baload => len = 1 ∧ w' = w ∧ ((∃ a r i, st = .int i :: .ref a :: r ∧ (Kd w a 11 ∨ Kd w a 14) ∧ vp_in i (wL w a) ∧ st' = .int (wX w a i.toNatClampNeg) :: r) ∨ (∃ q r i, q < 8 ∧ st = .int i :: .retAddr (100 + q) :: r ∧ vp_in i (sLen.getD q 0) ∧ st' = .int ((sByt.getD q []).getD i.toNatClampNeg 0) :: r))
  | .aaload => len = 1 ∧ w' = w ∧ ∃ a r i, st = .int i :: .ref a :: r ∧ (Kd w a 15 ∨ Kd w a 16) ∧ vp_in i (wL w a) ∧ st' = rfv (wZ w a i.toNatClampNeg) :: r
  | .arraylength => len = 1 ∧ w' = w ∧ ((∃ a r c, st = .ref a :: r ∧ Kd w a c ∧ 11 ≤ c ∧ st' = .int (Int32.ofNat (wL w a)) :: r) ∨ (∃ q r, q < 8 ∧ st = .retAddr (100 + q) :: r ∧ st' = .int (Int32.ofNat (sLen.getD q 0)) :: r) ∨ (∃ r, st = .retAddr 1000 :: r ∧ st' = .int (Int32.ofNat L) :: r))
  | .iastore => len = 1 ∧ ∃ a r i x, st = .int x :: .int i :: .ref a :: r ∧ Kd w a 12 ∧ vp_in i (wL w a) ∧ st' = r ∧ w' = uX w a i.toNatClampNeg x
  | .lastore => len = 1 ∧ ∃ a r i x, st = .long x :: .int i :: .ref a :: r ∧ Kd w a 13 ∧ vp_in i (wL w a) ∧ st' = r ∧ w' = uY w a i.toNatClampNeg x
  | .bastore => len = 1 ∧ ∃ a r i x ty, st = .int x :: .int i :: .ref a :: r ∧ ((Kd w a 11 ∧ ty = .byte) ∨ (Kd w a 14 ∧ ty = .boolean)) ∧ vp_in i (wL w a) ∧ st' = r ∧ w' = uX w a i.toNatClampNeg (vp_nar ty x)
  | .aastore => len = 1 ∧ ∃ a r i v, st = .ref v :: .int i :: .ref a :: r ∧ ((Kd w a 15 ∧ Kd w v 1) ∨ (Kd w a 16 ∧ Kd w v 5)) ∧ vp_in i (wL w a) ∧ st' = r ∧ w' = uZ w a i.toNatClampNeg (some v)
  | .newarray t => al = true ∧ len = 2 ∧ ∃ n r k, st = .int n :: r ∧ akd t = some k ∧ ¬ n < 0 ∧ n.toNatClampNeg * abt k ≤ 536870912 ∧ st' = .ref (wN w) :: r ∧ w' = nA w k n.toNatClampNeg
  | .anewarray i => al = true ∧ len = 3 ∧ ∃ n r k, st = .int n :: r ∧ cak o i = some k ∧ ¬ n < 0 ∧ n.toNatClampNeg * 4 ≤ 536870912 ∧ st' = .ref (wN w) :: r ∧ w' = nA w k n.toNatClampNeg
  | .new i => al = true ∧ len = 3 ∧ ∃ c r, clk o i = some c ∧ vwCl[c]? = some r ∧ st' = .ref (wN w) :: st ∧ w' = nO w c r.2.2
  | .ldc i => len = 2 ∧ w' = w ∧ ∃ q, sst o i = some q ∧ st' = .retAddr q :: st
  | .getstatic i => len = 3 ∧ w' = w ∧ o = 16 ∧ ((i = 38 ∧ st' = .int 1 :: st) ∨ (i = 1053 ∧ st' = .float 0 :: st))
  | .invokestatic i => len = 3 ∧ w' = w ∧ ∃ k r, mth o i = some k ∧ cats r ≤ 8 ∧ ((k = 0 ∧ ∃ x y, st = .int y :: .int x :: r ∧ st' = .int (if x < y then y else x) :: r) ∨ (k = 1 ∧ ∃ x y, st = .long y :: .long x :: r ∧ st' = .long (if y < x then x else y) :: r) ∨ (k = 2 ∧ ∃ x y, st = .int y :: .int x :: r ∧ st' = .int (if y < x then y else x) :: r) ∨ (k = 3 ∧ ∃ x y, st = .long y :: .long x :: r ∧ st' = .long (if y < x then y else x) :: r))
  | .invokespecial i => len = 3 ∧ w' = w ∧ ∃ a q, oin o i = some q ∧ cats st' ≤ 8 ∧ st = .ref a :: st'
  | _ => False
/-- a call of method m2 with the arguments as (the object first) -/
def Cs (o : Nat) (ins : Instr) (len : Nat) (st : List Value) (w : Wd) (m2 : Nat) (as rest : List Value) : Prop := len = 3 ∧ m2 < NM ∧ st = as.reverse ++ rest ∧ cats rest ≤ 8 ∧ match ins with
  | .invokestatic i => ml o i = some m2 ∧ mS m2 = 0 ∧ as.length = mA m2
  | .invokevirtual i => ml o i = some m2 ∧ mS m2 = 1 ∧ ∃ v vs, as = v :: vs ∧ vs.length = mA m2 ∧ ((∃ a, v = .ref a ∧ mO m2 < 11 ∧ Kd w a (mO m2)) ∨ (∃ q, v = .retAddr q ∧ q < 8 ∧ mO m2 = 16))
  | .invokespecial i => ml o i = some m2 ∧ mS m2 = 2 ∧ ∃ a vs, as = .ref a :: vs ∧ vs.length = mA m2
  | _ => False
/-- a return with the answer r -/
def Rt (mid : Nat) (ins : Instr) (len : Nat) (st : List Value) (w : Wd) (r : Option Value) (w' : Wd) : Prop := w' = w ∧ len = 1 ∧ match ins with
  | .ireturn => ∃ x ty, st = [.int x] ∧ r = some (.int x) ∧ mT mid = some ty ∧ narrow ty (.int x) = .int x
  | .lreturn => ∃ x, st = [.long x] ∧ r = some (.long x) ∧ mT mid = some .long
  | .areturn => ∃ a n, st = [.ref a] ∧ r = some (.ref a) ∧ mT mid = some (.object n)
  | .return_ => st = [] ∧ r = none ∧ mT mid = none
  | _ => False
abbrev Cr : Type := Nat → List Value → Wd → Option Value → Wd → Prop
/-- n instructions of method mid from pc on end in the answer r and the memory w'; C: what calls do -/
def Rn (xs : Nat → Int32) (L : Nat) (al : Bool) (C : Cr) (mid : Nat) : Nat → Nat → Lc → List Value → Wd → Option Value → Wd → Prop
  | 0, _, _, _, _, _, _ => False
  | n + 1, pc, lv, st, w, r, w' => ∃ ins len, cd mid pc = some (ins, len) ∧
      ((∃ t : Nx, stp (mL mid) (cI (mO mid)) (cJ (mO mid)) ins len pc lv st = some t ∧ Rn xs L al C mid n t.1 t.2.1 t.2.2 w r w')
      ∨ (∃ st1 w1, Ms xs L al (mO mid) (mS mid == 2) ins len st w st1 w1 ∧ Rn xs L al C mid n (pc + len) lv st1 w1 r w')
      ∨ (∃ m2 as rest r1 w1, Cs (mO mid) ins len st w m2 as rest ∧ C m2 as w r1 w1 ∧ Rn xs L al C mid n (pc + 3) lv (r1.toList ++ rest) w1 r w')
      ∨ Rt mid ins len st w r w')
/-- method mid with the arguments, at most d calls deep -/
def Ev (xs : Nat → Int32) (L : Nat) (al : Bool) : Nat → Cr
  | 0, _, _, _, _, _ => False
  | d + 1, mid, args, w, r, w' => mid < NM ∧ (lg_sl args).length ≤ mL mid ∧ ∃ n, Rn xs L al (Ev xs L al d) mid n 0 (lv_args 0 args) [] w r w'
/-- keys are only added -/
def Mo (w w' : Wd) : Prop := wN w ≤ wN w' ∧ wS w ≤ wS w'
theorem Mo.rf (w : Wd) : Mo w w := ⟨Nat.le_refl _, Nat.le_refl _⟩
theorem Mo.tr {a b c : Wd} (h : Mo a b) (k : Mo b c) : Mo a c := ⟨Nat.le_trans h.1 k.1, Nat.le_trans h.2 k.2⟩
theorem Ms_mo {xs : Nat → Int32} {L : Nat} {al : Bool} {o : Nat} {ini : Bool} {ins : Instr} {len : Nat} {st st' : List Value} {w w' : Wd} (h : Ms xs L al o ini ins len st w st' w') : Mo w w' := by
  cases ins <;> simp only [Ms] at h <;> first | (exact h.elim) | skip
  case putfield i =>
    obtain ⟨-, c, k, a, r, v, -, -, -, -, h, -⟩ := h
    obtain ⟨h1, h2, -⟩ := pV_ok h ((fun a => a, fun _ => 0, fun _ => 0, 0, none, (fun _ => 0, fun _ _ => 0), fun _ => 0) : Gc)
    exact ⟨by rw [h1]; exact Nat.le_refl _, by rw [h2]; exact Nat.le_refl _⟩
  case iastore => obtain ⟨-, a, r, i, x, -, -, -, -, rfl⟩ := h; exact Mo.rf w
  case lastore => obtain ⟨-, a, r, i, x, -, -, -, -, rfl⟩ := h; exact Mo.rf w
  case bastore => obtain ⟨-, a, r, i, x, ty, -, -, -, -, rfl⟩ := h; exact Mo.rf w
  case aastore => obtain ⟨-, a, r, i, v, -, -, -, -, rfl⟩ := h; exact Mo.rf w
  case newarray t => obtain ⟨-, -, n, r, k, -, -, -, -, -, rfl⟩ := h; exact ⟨Nat.le_succ _, Nat.le_add_right _ _⟩
  case anewarray i => obtain ⟨-, -, n, r, k, -, -, -, -, -, rfl⟩ := h; exact ⟨Nat.le_succ _, Nat.le_add_right _ _⟩
  case new i => obtain ⟨-, -, c, r, -, -, -, rfl⟩ := h; exact ⟨Nat.le_succ _, Nat.le_add_right _ _⟩
  all_goals (obtain ⟨-, rfl, -⟩ := h; exact Mo.rf _)
theorem Rn_mo {xs : Nat → Int32} {L : Nat} {al : Bool} {C : Cr} (hC : ∀ m2 as w r w', C m2 as w r w' → Mo w w') {mid : Nat} : ∀ (n pc : Nat) (lv : Lc) (st : List Value) (w : Wd) (r : Option Value) (w' : Wd), Rn xs L al C mid n pc lv st w r w' → Mo w w'
  | 0, _, _, _, _, _, _, h => h.elim
  | n + 1, pc, lv, st, w, r, w', h => by
    obtain ⟨ins, len, -, ⟨t, -, h⟩ | ⟨st1, w1, h1, h⟩ | ⟨m2, as, rest, r1, w1, -, h1, h⟩ | h⟩ := h
    · exact Rn_mo hC n _ _ _ _ _ _ h
    · exact (Ms_mo h1).tr (Rn_mo hC n _ _ _ _ _ _ h)
    · exact (hC _ _ _ _ _ h1).tr (Rn_mo hC n _ _ _ _ _ _ h)
    · rw [h.1]; exact Mo.rf w
theorem Ev_mo {xs : Nat → Int32} {L : Nat} {al : Bool} : ∀ (d m2 : Nat) (as : List Value) (w : Wd) (r : Option Value) (w' : Wd), Ev xs L al d m2 as w r w' → Mo w w'
  | 0, _, _, _, _, _, h => h.elim
  | d + 1, m2, as, w, r, w', h => by
    obtain ⟨-, -, n, h⟩ := h
    exact Rn_mo (Ev_mo d) n _ _ _ _ _ _ h
