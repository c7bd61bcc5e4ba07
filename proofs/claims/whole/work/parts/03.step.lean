/-! STEPS that touch no memory: the next pc, locals and stack. -/
abbrev Nx : Type := Nat × Lc × List Value
def bI (st : List Value) (f : Int32 → Int32 → Int32) : Option (List Value) := match st with
  | .int y :: .int x :: r => some (.int (f x y) :: r)
  | _ => none
def bJ (st : List Value) (f : Int64 → Int64 → Int64) : Option (List Value) := match st with
  | .long y :: .long x :: r => some (.long (f x y) :: r)
  | _ => none
def bS (st : List Value) (f : Int64 → Int32 → Int64) : Option (List Value) := match st with
  | .int y :: .long x :: r => some (.long (f x y) :: r)
  | _ => none
def bC (st : List Value) : Option (List Value) := match st with
  | .long y :: .long x :: r => some (.int (lg_cmp x y) :: r)
  | _ => none
def oI (st : List Value) (f : Int32 → Int32) : Option (List Value) := match st with
  | .int x :: r => some (.int (f x) :: r)
  | _ => none
def oJ (st : List Value) (f : Int64 → Int64) : Option (List Value) := match st with
  | .long x :: r => some (.long (f x) :: r)
  | _ => none
def oIJ (st : List Value) : Option (List Value) := match st with
  | .int x :: r => some (.long x.toInt64 :: r)
  | _ => none
def oJI (st : List Value) : Option (List Value) := match st with
  | .long x :: r => some (.int x.toInt32 :: r)
  | _ => none
/-- division: by what isn't 0 -/
def dI (st : List Value) (f : Int32 → Int32 → Int32) : Option (List Value) := match st with
  | .int y :: .int x :: r => if y = 0 then none else some (.int (f x y) :: r)
  | _ => none
def dJ (st : List Value) (f : Int64 → Int64 → Int64) : Option (List Value) := match st with
  | .long y :: .long x :: r => if y = 0 then none else some (.long (f x y) :: r)
  | _ => none
theorem bI_some {st st' : List Value} {f : Int32 → Int32 → Int32} (h : bI st f = some st') : ∃ x y r, st = .int y :: .int x :: r ∧ st' = .int (f x y) :: r := by
  unfold bI at h; split at h
  · cases h; exact ⟨_, _, _, rfl, rfl⟩
  · cases h
theorem bJ_some {st st' : List Value} {f : Int64 → Int64 → Int64} (h : bJ st f = some st') : ∃ x y r, st = .long y :: .long x :: r ∧ st' = .long (f x y) :: r := by
  unfold bJ at h; split at h
  · cases h; exact ⟨_, _, _, rfl, rfl⟩
  · cases h
theorem bS_some {st st' : List Value} {f : Int64 → Int32 → Int64} (h : bS st f = some st') : ∃ x y r, st = .int y :: .long x :: r ∧ st' = .long (f x y) :: r := by
  unfold bS at h; split at h
  · cases h; exact ⟨_, _, _, rfl, rfl⟩
  · cases h
theorem bC_some {st st' : List Value} (h : bC st = some st') : ∃ x y r, st = .long y :: .long x :: r ∧ st' = .int (lg_cmp x y) :: r := by
  unfold bC at h; split at h
  · cases h; exact ⟨_, _, _, rfl, rfl⟩
  · cases h
theorem oI_some {st st' : List Value} {f : Int32 → Int32} (h : oI st f = some st') : ∃ x r, st = .int x :: r ∧ st' = .int (f x) :: r := by
  unfold oI at h; split at h
  · cases h; exact ⟨_, _, rfl, rfl⟩
  · cases h
theorem oJ_some {st st' : List Value} {f : Int64 → Int64} (h : oJ st f = some st') : ∃ x r, st = .long x :: r ∧ st' = .long (f x) :: r := by
  unfold oJ at h; split at h
  · cases h; exact ⟨_, _, rfl, rfl⟩
  · cases h
theorem oIJ_some {st st' : List Value} (h : oIJ st = some st') : ∃ x r, st = .int x :: r ∧ st' = .long x.toInt64 :: r := by
  unfold oIJ at h; split at h
  · cases h; exact ⟨_, _, rfl, rfl⟩
  · cases h
theorem oJI_some {st st' : List Value} (h : oJI st = some st') : ∃ x r, st = .long x :: r ∧ st' = .int x.toInt32 :: r := by
  unfold oJI at h; split at h
  · cases h; exact ⟨_, _, rfl, rfl⟩
  · cases h
theorem dI_some {st st' : List Value} {f : Int32 → Int32 → Int32} (h : dI st f = some st') : ∃ x y r, st = .int y :: .int x :: r ∧ ¬ y = 0 ∧ st' = .int (f x y) :: r := by
  unfold dI at h; split at h
  · split at h
    · cases h
    · cases h; exact ⟨_, _, _, rfl, by assumption, rfl⟩
  · cases h
theorem dJ_some {st st' : List Value} {f : Int64 → Int64 → Int64} (h : dJ st f = some st') : ∃ x y r, st = .long y :: .long x :: r ∧ ¬ y = 0 ∧ st' = .long (f x y) :: r := by
  unfold dJ at h; split at h
  · split at h
    · cases h
    · cases h; exact ⟨_, _, _, rfl, by assumption, rfl⟩
  · cases h
/-- behind an instruction of length n -/
def nxt (len n pc : Nat) (lv : Lc) (st : Option (List Value)) : Option Nx := if len = n then st.map (fun t => (pc + n, lv, t)) else none
theorem nxt_some {len n pc : Nat} {lv : Lc} {st : Option (List Value)} {x : Nx} (h : nxt len n pc lv st = some x) : len = n ∧ ∃ t, st = some t ∧ x = (pc + n, lv, t) := by
  unfold nxt at h; split at h
  · cases st with
    | none => cases h
    | some t => cases h; exact ⟨by assumption, t, rfl, rfl⟩
  · cases h
def ldI (lv : Lc) (i : Nat) (st : List Value) : Option (List Value) := match lcg lv i with
  | some (.int x) => some (.int x :: st)
  | _ => none
def ldJ (lv : Lc) (i : Nat) (st : List Value) : Option (List Value) := match lcg lv i with
  | some (.long x) => some (.long x :: st)
  | _ => none
def ldA (lv : Lc) (i : Nat) (st : List Value) : Option (List Value) := match lcg lv i with
  | some (.ref x) => some (.ref x :: st)
  | some (.retAddr x) => some (.retAddr x :: st)
  | some .null => some (.null :: st)
  | _ => none
theorem ldI_some {lv : Lc} {i : Nat} {st t : List Value} (h : ldI lv i st = some t) : ∃ x, lcg lv i = some (.int x) ∧ t = .int x :: st := by
  unfold ldI at h; split at h
  · cases h; exact ⟨_, by assumption, rfl⟩
  · cases h
theorem ldJ_some {lv : Lc} {i : Nat} {st t : List Value} (h : ldJ lv i st = some t) : ∃ x, lcg lv i = some (.long x) ∧ t = .long x :: st := by
  unfold ldJ at h; split at h
  · cases h; exact ⟨_, by assumption, rfl⟩
  · cases h
theorem ldA_some {lv : Lc} {i : Nat} {st t : List Value} (h : ldA lv i st = some t) : ∃ v, lcg lv i = some v ∧ t = v :: st ∧ (v = .null ∨ (∃ x, v = .ref x) ∨ ∃ x, v = .retAddr x) := by
  unfold ldA at h; split at h
  · cases h; exact ⟨_, by assumption, rfl, Or.inr (Or.inl ⟨_, rfl⟩)⟩
  · cases h; exact ⟨_, by assumption, rfl, Or.inr (Or.inr ⟨_, rfl⟩)⟩
  · cases h; exact ⟨_, by assumption, rfl, Or.inl rfl⟩
  · cases h
/-- stores: the place must be within nL -/
def stI (nL len n pc : Nat) (lv : Lc) (i : Nat) (st : List Value) : Option Nx := match st with
  | .int x :: r => if len = n ∧ i < nL then some (pc + n, lc1 lv i (.int x), r) else none
  | _ => none
def stJ (nL len n pc : Nat) (lv : Lc) (i : Nat) (st : List Value) : Option Nx := match st with
  | .long x :: r => if len = n ∧ i + 1 < nL then some (pc + n, lc2 lv i (.long x), r) else none
  | _ => none
def stA (nL len n pc : Nat) (lv : Lc) (i : Nat) (st : List Value) : Option Nx := match st with
  | .ref x :: r => if len = n ∧ i < nL then some (pc + n, lc1 lv i (.ref x), r) else none
  | .null :: r => if len = n ∧ i < nL then some (pc + n, lc1 lv i .null, r) else none
  | _ => none
theorem stI_some {nL len n pc : Nat} {lv : Lc} {i : Nat} {st : List Value} {t : Nx} (h : stI nL len n pc lv i st = some t) : ∃ x r, st = .int x :: r ∧ len = n ∧ i < nL ∧ t = (pc + n, lc1 lv i (.int x), r) := by
  unfold stI at h; split at h
  · split at h
    · next hc => cases h; exact ⟨_, _, rfl, hc.1, hc.2, rfl⟩
    · cases h
  · cases h
theorem stJ_some {nL len n pc : Nat} {lv : Lc} {i : Nat} {st : List Value} {t : Nx} (h : stJ nL len n pc lv i st = some t) : ∃ x r, st = .long x :: r ∧ len = n ∧ i + 1 < nL ∧ t = (pc + n, lc2 lv i (.long x), r) := by
  unfold stJ at h; split at h
  · split at h
    · next hc => cases h; exact ⟨_, _, rfl, hc.1, hc.2, rfl⟩
    · cases h
  · cases h
theorem stA_some {nL len n pc : Nat} {lv : Lc} {i : Nat} {st : List Value} {t : Nx} (h : stA nL len n pc lv i st = some t) : ∃ v r, st = v :: r ∧ len = n ∧ i < nL ∧ t = (pc + n, lc1 lv i v, r) ∧ (v = .null ∨ ∃ x, v = .ref x) := by
  unfold stA at h; split at h
  · split at h
    · next hc => cases h; exact ⟨_, _, rfl, hc.1, hc.2, rfl, Or.inr ⟨_, rfl⟩⟩
    · cases h
  · split at h
    · next hc => cases h; exact ⟨_, _, rfl, hc.1, hc.2, rfl, Or.inl rfl⟩
    · cases h
  · cases h
/-- where a jump goes -/
def tgt (pc : Nat) (off : Int) : Nat := ((pc : Int) + off).toNat
theorem tgt_ok {pc : Nat} {off : Int} (h : 0 ≤ (pc : Int) + off) : (pc : Int) + off = ((tgt pc off : Nat) : Int) := (Int.toNat_of_nonneg h).symm
def jmp (len pc : Nat) (off : Int) (lv : Lc) (c : Prop) [Decidable c] (r : List Value) : Option Nx := if len = 3 ∧ 0 ≤ (pc : Int) + off then (if c then some (tgt pc off, lv, r) else some (pc + 3, lv, r)) else none
theorem jmp_some {len pc : Nat} {off : Int} {lv : Lc} {c : Prop} [Decidable c] {r : List Value} {t : Nx} (h : jmp len pc off lv c r = some t) : len = 3 ∧ (pc : Int) + off = ((tgt pc off : Nat) : Int) ∧ ((c ∧ t = (tgt pc off, lv, r)) ∨ (¬ c ∧ t = (pc + 3, lv, r))) := by
  unfold jmp at h; split at h
  · next hl =>
    refine ⟨hl.1, tgt_ok hl.2, ?_⟩
    split at h
    · cases h; exact Or.inl ⟨by assumption, rfl⟩
    · cases h; exact Or.inr ⟨by assumption, rfl⟩
  · cases h
def ifZ (cd : Jvm.ClassFile.Cond) (len pc : Nat) (off : Int) (lv : Lc) (st : List Value) : Option Nx := match st with
  | .int x :: r => match cd with
    | .eq => jmp len pc off lv (x = 0) r
    | .ne => jmp len pc off lv (¬ x = 0) r
    | .lt => jmp len pc off lv (x < 0) r
    | .ge => jmp len pc off lv (0 ≤ x) r
    | .gt => jmp len pc off lv (0 < x) r
    | .le => jmp len pc off lv (x ≤ 0) r
  | _ => none
def ifC (cd : Jvm.ClassFile.Cond) (len pc : Nat) (off : Int) (lv : Lc) (st : List Value) : Option Nx := match st with
  | .int y :: .int x :: r => match cd with
    | .eq => jmp len pc off lv (x = y) r
    | .ne => jmp len pc off lv (¬ x = y) r
    | .lt => jmp len pc off lv (x < y) r
    | .ge => jmp len pc off lv (y ≤ x) r
    | .gt => jmp len pc off lv (y < x) r
    | .le => jmp len pc off lv (x ≤ y) r
  | _ => none
def ifN (len pc : Nat) (off : Int) (lv : Lc) (st : List Value) : Option Nx := match st with
  | .ref _ :: r => if len = 3 then some (pc + 3, lv, r) else none
  | .null :: r => if len = 3 ∧ 0 ≤ (pc : Int) + off then some (tgt pc off, lv, r) else none
  | _ => none
def dup1 (st : List Value) : Option (List Value) := match st with
  | v :: r => if v.category = 1 then some (v :: v :: r) else none
  | _ => none
def dup2c (st : List Value) : Option (List Value) := match st with
  | va :: vb :: r => if va.category = 1 ∧ vb.category = 1 then some (va :: vb :: va :: vb :: r) else none
  | _ => none
def pop1 (st : List Value) : Option (List Value) := match st with
  | v :: r => if v.category = 1 then some r else none
  | _ => none
def pop2c (st : List Value) : Option (List Value) := match st with
  | v :: r => if v.category = 2 then some r else none
  | _ => none
theorem dup1_some {st t : List Value} (h : dup1 st = some t) : ∃ v r, st = v :: r ∧ v.category = 1 ∧ t = v :: v :: r := by
  unfold dup1 at h; split at h
  · split at h
    · cases h; exact ⟨_, _, rfl, by assumption, rfl⟩
    · cases h
  · cases h
theorem dup2c_some {st t : List Value} (h : dup2c st = some t) : ∃ va vb r, st = va :: vb :: r ∧ va.category = 1 ∧ vb.category = 1 ∧ t = va :: vb :: va :: vb :: r := by
  unfold dup2c at h; split at h
  · split at h
    · next hc => cases h; exact ⟨_, _, _, rfl, hc.1, hc.2, rfl⟩
    · cases h
  · cases h
theorem pop1_some {st t : List Value} (h : pop1 st = some t) : ∃ v, st = v :: t ∧ v.category = 1 := by
  unfold pop1 at h; split at h
  · split at h
    · cases h; exact ⟨_, rfl, by assumption⟩
    · cases h
  · cases h
theorem pop2c_some {st t : List Value} (h : pop2c st = some t) : ∃ v, st = v :: t ∧ v.category = 2 := by
  unfold pop2c at h; split at h
  · split at h
    · cases h; exact ⟨_, rfl, by assumption⟩
    · cases h
  · cases h
def iincr (nL len pc : Nat) (lv : Lc) (i : Nat) (n : Int) (st : List Value) : Option Nx := match lcg lv i with
  | some (.int x) => if len = 3 ∧ i < nL then some (pc + 3, lc1 lv i (.int (x + Int32.ofInt n)), st) else none
  | _ => none
/-- one instruction that touches no memory; cI, cJ: the class's constants -/
def stp (nL : Nat) (cI : Nat → Option Int32) (cJ : Nat → Option Int64) (ins : Instr) (len pc : Nat) (lv : Lc) (st : List Value) : Option Nx := match ins with
  | .iconst n => nxt len 1 pc lv (some (.int (Int32.ofInt n) :: st))
  | .bipush n => nxt len 2 pc lv (some (.int (Int8.ofInt n).toInt32 :: st))
  | .sipush n => nxt len 3 pc lv (some (.int (Int16.ofInt n).toInt32 :: st))
  | .lconst n => nxt len 1 pc lv (some (.long (Int64.ofNat n) :: st))
  | .ldc i => nxt len 2 pc lv ((cI i).map (fun v => .int v :: st))
  | .ldc_w i => nxt len 3 pc lv ((cI i).map (fun v => .int v :: st))
  | .ldc2_w i => nxt len 3 pc lv ((cJ i).map (fun v => .long v :: st))
  | .aconst_null => nxt len 1 pc lv (some (.null :: st))
  | .iload_n k => nxt len 1 pc lv (ldI lv k st)
  | .iload i => nxt len 2 pc lv (ldI lv i st)
  | .lload_n k => nxt len 1 pc lv (ldJ lv k st)
  | .lload i => nxt len 2 pc lv (ldJ lv i st)
  | .aload_n k => nxt len 1 pc lv (ldA lv k st)
  | .aload i => nxt len 2 pc lv (ldA lv i st)
  | .istore_n k => stI nL len 1 pc lv k st
  | .istore i => stI nL len 2 pc lv i st
  | .lstore_n k => stJ nL len 1 pc lv k st
  | .lstore i => stJ nL len 2 pc lv i st
  | .astore_n k => stA nL len 1 pc lv k st
  | .astore i => stA nL len 2 pc lv i st
  | .iinc i n => iincr nL len pc lv i n st
  | .iadd => nxt len 1 pc lv (bI st (fun x y => x + y))
  | .isub => nxt len 1 pc lv (bI st (fun x y => x - y))
  | .imul => nxt len 1 pc lv (bI st (fun x y => x * y))
  | .iand => nxt len 1 pc lv (bI st (fun x y => x &&& y))
  | .ior => nxt len 1 pc lv (bI st (fun x y => x ||| y))
  | .ixor => nxt len 1 pc lv (bI st (fun x y => x ^^^ y))
  | .idiv => nxt len 1 pc lv (dI st (fun x y => x / y))
  | .irem => nxt len 1 pc lv (dI st (fun x y => x - x / y * y))
  | .ineg => nxt len 1 pc lv (oI st (fun x => -x))
  | .ladd => nxt len 1 pc lv (bJ st (fun x y => x + y))
  | .lsub => nxt len 1 pc lv (bJ st (fun x y => x - y))
  | .lmul => nxt len 1 pc lv (bJ st (fun x y => x * y))
  | .land => nxt len 1 pc lv (bJ st (fun x y => x &&& y))
  | .lor => nxt len 1 pc lv (bJ st (fun x y => x ||| y))
  | .lxor => nxt len 1 pc lv (bJ st (fun x y => x ^^^ y))
  | .ldiv => nxt len 1 pc lv (dJ st (fun x y => x / y))
  | .lrem => nxt len 1 pc lv (dJ st (fun x y => x - x / y * y))
  | .lneg => nxt len 1 pc lv (oJ st (fun x => -x))
  | .ishl => nxt len 1 pc lv (bI st (fun x y => x <<< (y &&& 31)))
  | .ishr => nxt len 1 pc lv (bI st (fun x y => x >>> (y &&& 31)))
  | .iushr => nxt len 1 pc lv (bI st (fun x y => (x.toUInt32 >>> (y.toUInt32 &&& Int32.toUInt32 31)).toInt32))
  | .lshl => nxt len 1 pc lv (bS st (fun x y => x <<< (y.toInt64 &&& 63)))
  | .lshr => nxt len 1 pc lv (bS st (fun x y => x >>> (y.toInt64 &&& 63)))
  | .lushr => nxt len 1 pc lv (bS st (fun x y => (x.toUInt64 >>> (y.toInt64.toUInt64 &&& Int64.toUInt64 63)).toInt64))
  | .lcmp => nxt len 1 pc lv (bC st)
  | .i2l => nxt len 1 pc lv (oIJ st)
  | .l2i => nxt len 1 pc lv (oJI st)
  | .i2b => nxt len 1 pc lv (oI st (fun x => x.toInt8.toInt32))
  | .i2c => nxt len 1 pc lv (oI st (fun x => (x.toUInt32 % 65536).toInt32))
  | .dup => nxt len 1 pc lv (dup1 st)
  | .dup2 => nxt len 1 pc lv (dup2c st)
  | .pop => nxt len 1 pc lv (pop1 st)
  | .pop2 => nxt len 1 pc lv (pop2c st)
  | .goto off => jmp len pc off lv True st
  | .ifCond cd off => ifZ cd len pc off lv st
  | .if_icmp cd off => ifC cd len pc off lv st
  | .ifnull off => ifN len pc off lv st
  | .tableswitch dflt lo hi offs => match st with
    | .int x :: r => if 0 ≤ (pc : Int) + dflt ∧ (offs.all fun o => decide (0 ≤ (pc : Int) + o)) = true then (if x.toInt < lo ∨ hi < x.toInt then some (tgt pc dflt, lv, r) else (offs[(x.toInt - lo).toNat]?).map (fun o => (tgt pc o, lv, r))) else none
    | _ => none
  | .lookupswitch dflt ps => match st with
    | .int x :: r => if (ps.toList.zip (ps.toList.drop 1)).all (fun (a, next) => a.1 < next.1) = true ∧ 0 ≤ (pc : Int) + Op.lookupswitch.offset ps.toList dflt x.toInt then some (tgt pc (Op.lookupswitch.offset ps.toList dflt x.toInt), lv, r) else none
    | _ => none
  | _ => none
