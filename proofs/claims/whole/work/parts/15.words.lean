/-! the abstract machine's tables for this class, and that the words bear them -/
def qfind {α : Type} (L : List (Nat × Nat × α)) (k ix : Nat) : Option α := (L.find? (fun e => e.1 == k && e.2.1 == ix)).map (fun e => e.2.2)
theorem qfind_mem {α : Type} {L : List (Nat × Nat × α)} {k ix : Nat} {x : α} (h : qfind L k ix = some x) : (k, ix, x) ∈ L := by
  unfold qfind at h
  obtain ⟨e, h1, h2⟩ := Option.map_eq_some_iff.mp h
  have h3 := List.mem_of_find?_eq_some h1
  have h4 := List.find?_some h1
  simp only [Bool.and_eq_true, beq_iff_eq] at h4
  obtain ⟨h5, h6⟩ := h4
  obtain ⟨a, b, c⟩ := e
  cases h2
  cases h5
  cases h6
  exact h3
def qcw (M : zM) : Jvm.Cond := match M.2.2.2.2.2.2 with
  | [] => .code M.2.1 M.2.2.1 M.2.2.2.1 M.2.2.2.2.1
  | hs => .codeWith M.2.1 M.2.2.1 M.2.2.2.1 M.2.2.2.2.1 (hs.map (fun q => (q.1, q.2.1, q.2.2.1, qcatch q.2.2.2)))
def qown (k : Nat) : String := qcn.getD k ""
def qmet (mi : Nat) : MethodName := ((qms[mi]?).map (fun M => M.2.1)).getD ⟨"", "", ""⟩
def qwM (M : zM) : List Jvm.Cond := [qcw M, .initialized M.2.1.cls]
def qwL (e : Nat × Nat × Nat × Nat × Nat) : List Jvm.Cond := match e with
  | (k, ix, mi, kind, _) => match kind with
    | 0 => [.methodLink (qown k) ix (qmet mi), .static (qmet mi)]
    | 1 => [.methodLink (qown k) ix (qmet mi), .instanceMethod (qmet mi), .selects (qmet mi).cls (qmet mi) (qmet mi)]
    | 2 => [.methodLink (qown k) ix (qmet mi), .instanceMethod (qmet mi)]
    | _ => [.methodLink (qown k) ix objectInit, .instanceMethod objectInit, .code objectInit ⟨#[0xb1]⟩ 1 none]
def qfw (ci j : Nat) : String × String × String × Bool := match qcl[ci]? with
  | some q => q.2.1 j
  | none => ("", "", "", false)
def qwF (e : Nat × Nat × Nat × Nat) : List Jvm.Cond := [.fieldLink (qown e.1) e.2.1 (qfw e.2.2.1 e.2.2.2).1 (qfw e.2.2.1 e.2.2.2).2.1 (qfw e.2.2.1 e.2.2.2).2.2.1]
def qwN (e : Nat × Nat × Nat) : List Jvm.Cond := match qcl[e.2.2]? with
  | some q => [.classLink (qown e.1) e.2.1 q.1, .instantiable q.1 q.2.2, .initialized q.1]
  | none => []
def qwK (e : Nat × Nat × Value) : List Jvm.Cond := match e.2.2 with
  | .int x => [.constant (qown e.1) e.2.1 x]
  | .long x => [.constantLong (qown e.1) e.2.1 x]
  | .double x => [.constantDouble (qown e.1) e.2.1 x]
  | _ => []
def qTs : List Jvm.Cond := qms.flatMap qwM ++ (qml.flatMap qwL ++ (qfl.flatMap qwF ++ (qnl.flatMap qwN ++ (qkl.flatMap qwK ++ (qcl.flatMap (fun q => u_ws q.1 q.2.1 q.2.2) ++ [.arrayClass .int, .arrayClass .boolean, .arrayClass .long, .arrayClass .double])))))
def qNs : List Jvm.Cond := qfn.map (fun e => .fieldLinkNest (qown e.1) e.2.1 (qfw e.2.2.1 e.2.2.2).1 (qfw e.2.2.1 e.2.2.2).2.1 (qfw e.2.2.1 e.2.2.2).2.2.1 (qhost e.1 e.2.1))
set_option maxRecDepth 100000 in
set_option maxHeartbeats 4000000 in
theorem qTs_good : qTs.all goodWord = true := by decide +kernel
