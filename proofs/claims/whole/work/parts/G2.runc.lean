/-! MAKING: the class's own run. -/
def okA (q : Qs) (a n : Nat) : Bool := decide (mkK q a = some 12) && decide (mkL q a = some n)
def orcC : Xc := fun mid as q => match mid, as with
  | 5, [.ref 19, .ref 20, .ref 21] => if mkT q = 0 ∧ (okA q 19 4096 && (okA q 20 210 && okA q 21 7)) = true then some (none, ((1, q.1.2), q.2)) else none
  | 7, [.ref 20, .ref 21, .ref 22, .ref 29] => if mkT q = 1 ∧ (okA q 20 210 && (okA q 21 7 && (okA q 22 1470 && okA q 29 7))) = true then some (none, ((2, q.1.2), q.2)) else none
  | 7, [.ref 20, .ref 29, .ref 23, .ref 24] => if mkT q = 2 ∧ (okA q 20 210 && (okA q 29 7 && (okA q 23 1470 && okA q 24 7))) = true then some (none, ((3, q.1.2), q.2)) else none
  | _, _ => none
def qEm : Qs := ((0, 0, 0), [], [], [], [], [])
def chkC1 (q : Qs) : Bool := decide (mkT q = 3) && (decide (mkN q = 101) && decide (mkS q = 8097))
def chkC2 (q : Qs) : Bool := kTC.all (fun e => decide (mkK q e.1 = some e.2)) && (lTC.all (fun e => decide (mkL q e.1 = some e.2)) && rTC.all (fun e => decide (mkR q e.1 e.2.1 = some e.2.2)))
def chkC3 (q : Qs) : Bool := tKl.all (fun t => decide (mkR q t 0 = some (t + 1)) && decide (mkL q (t + 1) = some 0)) && (decide (mkR q 30 2 = some 31) && decide (mkL q 31 = some 0))
def chkC4 (q : Qs) : Bool := sKl.all (fun s => match mkR q s 4 with
  | some e => eKl.contains e
  | none => false) && decide (mkR q 97 4 = some 33)
def chkC5 (q : Qs) : Bool := (List.range 9).all (fun i => decide (mkR q (33 + 3 * i) 4 = if i % 3 = 0 then none else some (33 + 3 * (i - 1))) && (decide (mkI q (33 + 3 * i) 3 = nI (i / 3)) && decide (mkZ q 32 i = some (33 + 3 * i)))) && (List.range 12).all (fun i => decide (mkI q (61 + 3 * i) 3 = nI (i % 4)) && decide (mkZ q 60 i = some (61 + 3 * i)))
def chkC6 (q : Qs) : Bool := decide (mkI q 0 8 = -1) && (decide (mkI q 0 6 = 0) && (decide (mkI q 0 1 = 0) && (decide (mkI q 30 3 = 0) && (List.range 7).all (fun k => decide (mkI q 10 k = 0)))))
def chkC7 (q : Qs) : Bool := q.2.2.2.1.all (fun e => match e.2.2 with
  | some t => decide (t < 101)
  | none => true) && q.2.2.2.2.2.all (fun e => match e.2.2 with
  | some t => decide (t < 101)
  | none => true)
def chkC (q : Qs) : Bool := chkC1 q && (chkC2 q && (chkC3 q && (chkC4 q && (chkC5 q && (chkC6 q && chkC7 q)))))
def okRun (o : Option (Option Value × Qs)) (f : Qs → Bool) : Bool := match o with
  | some (none, q) => f q
  | _ => false
set_option maxRecDepth 100000 in
theorem run_C : okRun (xev orcC 4000 12 0 [.ref 0] (qNO qEm 9 12)) chkC = true := by decide +kernel
