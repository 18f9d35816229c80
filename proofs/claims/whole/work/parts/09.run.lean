/-! the run of a method, and of the methods that it calls -/
/-- a method: its class' number, name, code, locals, answer, whether it is a constructor, its handlers (from, to, place, exception's number) -/
abbrev zM : Type := Nat × MethodName × ByteArray × Nat × Option FieldType × Bool × List (Nat × Nat × Nat × Nat)
/-- the tables: classes' names by their numbers; the classes of objects, by the same numbers; field types; by a class' number and its pool's number: fields, classes made, constants, methods called (method, kind, arguments), exceptions made (exception, its constructor's pool number); methods; the classes of the objects that were there before; what is left to others -/
abbrev zTb : Type := (Nat → Option String) × List vw_C × (Nat → Nat → FieldType) × (Nat → Nat → Option (Nat × Nat)) × (Nat → Nat → Option Nat) × (Nat → Nat → Option Value) × (Nat → Nat → Option (Nat × Nat × Nat)) × (Nat → Nat → Option (Nat × Nat)) × (Nat → Option zM) × (Nat → Option Nat) × (Nat → Instr → List Value → Option (List Value))
def zTcn (T : zTb) : Nat → Option String := T.1
def zTcl (T : zTb) : List vw_C := T.2.1
def zTty (T : zTb) : Nat → Nat → FieldType := T.2.2.1
def zTfl (T : zTb) : Nat → Nat → Option (Nat × Nat) := T.2.2.2.1
def zTnl (T : zTb) : Nat → Nat → Option Nat := T.2.2.2.2.1
def zTkl (T : zTb) : Nat → Nat → Option Value := T.2.2.2.2.2.1
def zTml (T : zTb) : Nat → Nat → Option (Nat × Nat × Nat) := T.2.2.2.2.2.2.1
def zTxl (T : zTb) : Nat → Nat → Option (Nat × Nat) := T.2.2.2.2.2.2.2.1
def zTms (T : zTb) : Nat → Option zM := T.2.2.2.2.2.2.2.2.1
def zTsk (T : zTb) : Nat → Option Nat := T.2.2.2.2.2.2.2.2.2.1
def zText (T : zTb) : Nat → Instr → List Value → Option (List Value) := T.2.2.2.2.2.2.2.2.2.2
abbrev zO : Type := Option Value ⊕ Nat
abbrev zG : Type := Nat × zL × List Value × zH
abbrev zRs : Type := zO × zH × Nat × Nat
abbrev zStp : Type := (zG × Nat × Nat) ⊕ (zRs ⊕ (Nat × List Value × Nat × zL × List Value × zH))
def zkI (o : Option Value) (st : List Value) : Option (List Value) := match o with
  | some (.int x) => some (.int x :: st)
  | _ => none
def zkL (o : Option Value) (st : List Value) : Option (List Value) := match o with
  | some (.long x) => some (.long x :: st)
  | some (.double x) => some (.double x :: st)
  | _ => none
def zmem (T : zTb) (k : Nat) (i : Instr) (h : zH) (st : List Value) : Option (List Value) := match i with
  | .getfield ix => zgetf (zTfl T k) ix h st
  | .iaload => zaldI h st
  | .baload => zaldZ h st
  | .laload => zaldL h st
  | .daload => zaldD h st
  | .arraylength => zalen h st
  | .ldc ix => zkI (zTkl T k ix) st
  | .ldc_w ix => zkI (zTkl T k ix) st
  | .ldc2_w ix => zkL (zTkl T k ix) st
  | _ => none
def zwr (T : zTb) (k : Nat) (init : Bool) (i : Instr) (h : zH) (st : List Value) : Option (zH × List Value) := match i with
  | .putfield ix => zputf (zTcl T) (zTty T) init k (zTfl T k) ix h st
  | .iastore => zastI h st
  | .bastore => zastZ h st
  | .lastore => zastL h st
  | .dastore => zastD h st
  | _ => none
def znw (T : zTb) (k : Nat) (i : Instr) (h : zH) (st : List Value) : Option (zH × List Value × Nat) := match i with
  | .new ix => znew (zTcl T) (zTty T) (zTnl T k) ix h st
  | .newarray t => znewa t h st
  | _ => none
def zcat (st : List Value) : Nat := (st.map fun v => v.category).sum
/-- new, dup, the constructor, athrow: a new exception, in a method without handlers -/
def zth (T : zTb) (k : Nat) (cc : ByteArray) (hs : List (Nat × Nat × Nat × Nat)) (pc : Nat) (i : Instr) (st : List Value) : Option Nat := match i with
  | .new ix => match zTxl T k ix with
    | some (xi, ic) => match decode cc (pc + 3), decode cc (pc + 4), decode cc (pc + 7) with
      | .ok (.dup, 1), .ok (.invokespecial j, 3), .ok (.athrow, 1) => if j = ic ∧ hs.isEmpty = true ∧ zcat st ≤ 16 then some xi else none
      | _, _, _ => none
    | none => none
  | _ => none
def zoi (T : zTb) (k : Nat) (i : Instr) (st : List Value) : Option (List Value) := match i with
  | .invokespecial ix => match zTml T k ix with
    | some (_, 3, _) => match st with
      | .ref _ :: r => if zcat r ≤ 16 then some r else none
      | _ => none
    | _ => none
  | _ => none
def zargs (n : Nat) (st : List Value) : Option (List Value × List Value) := if n ≤ st.length then some ((st.take n).reverse, st.drop n) else none
/-- a call: the method, its arguments, what stays on the stack -/
def zcl (T : zTb) (k : Nat) (i : Instr) (h : zH) (st : List Value) : Option (Nat × List Value × List Value) := match i with
  | .invokestatic ix => match zTml T k ix with
    | some (mi, 0, n) => match zargs n st with
      | some (as, r) => if zcat r ≤ 16 then some (mi, as, r) else none
      | none => none
    | _ => none
  | .invokevirtual ix => match zTml T k ix with
    | some (mi, 1, n) => match zargs n st, zTms T mi with
      | some (as, .ref b :: r), some M => match h[b]? with
        | some (.inr (ci, _)) => if ci = M.1 ∧ zcat r ≤ 16 then some (mi, .ref b :: as, r) else none
        | _ => none
      | some (as, .retAddr b :: r), some M => match zTsk T b with
        | some ci => if ci = M.1 ∧ zcat r ≤ 16 then some (mi, .retAddr b :: as, r) else none
        | none => none
      | _, _ => none
    | _ => none
  | .invokespecial ix => match zTml T k ix with
    | some (mi, 2, n) => match zargs n st with
      | some (as, .ref b :: r) => if zcat r ≤ 16 then some (mi, .ref b :: as, r) else none
      | _ => none
    | _ => none
  | _ => none
def zrt (ret : Option FieldType) (i : Instr) (st : List Value) : Option (Option Value) := match i with
  | .ireturn => match ret, st with
    | some .int, [.int x] => some (some (.int x))
    | some .boolean, [.int x] => if x = 0 ∨ x = 1 then some (some (.int x)) else none
    | some .byte, [.int x] => if narrow .byte (.int x) = .int x then some (some (.int x)) else none
    | some .char, [.int x] => if narrow .char (.int x) = .int x then some (some (.int x)) else none
    | _, _ => none
  | .lreturn => match ret, st with
    | some .long, [.long x] => some (some (.long x))
    | _, _ => none
  | .dreturn => match ret, st with
    | some .double, [.double x] => some (some (.double x))
    | _, _ => none
  | .return_ => match ret, st with
    | none, [] => some none
    | _, _ => none
  | .areturn => match ret, st with
    | some (.object _), [.ref x] => some (some (.ref x))
    | some (.object _), [.retAddr x] => some (some (.retAddr x))
    | _, _ => none
  | _ => none
/-- one instruction: it goes on, or the method ends, or a call is due -/
def zstep (T : zTb) (M : zM) (g : zG) : Option zStp := match decode M.2.2.1 g.1 with
  | .error _ => none
  | .ok (i, len) => match zbr g.1 len i g.2.2.1 with
    | some (pc', st') => some (.inl ((pc', g.2.1, st', g.2.2.2), 0, 0))
    | none => if len = zlen i then
        match zpure M.2.2.2.1 i g.2.1 g.2.2.1 with
        | some (l', st') => some (.inl ((g.1 + len, l', st', g.2.2.2), 0, 0))
        | none => match zmem T M.1 i g.2.2.2 g.2.2.1 with
          | some st' => some (.inl ((g.1 + len, g.2.1, st', g.2.2.2), 0, 0))
          | none => match zwr T M.1 M.2.2.2.2.2.1 i g.2.2.2 g.2.2.1 with
            | some (h', st') => some (.inl ((g.1 + len, g.2.1, st', h'), 0, 0))
            | none => match zth T M.1 M.2.2.1 M.2.2.2.2.2.2 g.1 i g.2.2.1 with
              | some xi => some (.inr (.inl (.inr xi, g.2.2.2, 1, 6)))
              | none => match znw T M.1 i g.2.2.2 g.2.2.1 with
                | some (h', st', dn) => some (.inl ((g.1 + len, g.2.1, st', h'), 1, dn))
                | none => match zoi T M.1 i g.2.2.1 with
                  | some st' => some (.inl ((g.1 + len, g.2.1, st', g.2.2.2), 0, 0))
                  | none => match zcl T M.1 i g.2.2.2 g.2.2.1 with
                    | some (mi, as, r) => some (.inr (.inr (mi, as, g.1, g.2.1, r, g.2.2.2)))
                    | none => match zrt M.2.2.2.2.1 i g.2.2.1 with
                      | some v => some (.inr (.inl (.inl v, g.2.2.2, 0, 0)))
                      | none => match zText T M.1 i g.2.2.1 with
                        | some st' => some (.inl ((g.1 + len, g.2.1, st', g.2.2.2), 0, 0))
                        | none => none
      else none
def zadd (dc ds : Nat) (r : zRs) : zRs := (r.1, r.2.1, dc + r.2.2.1, ds + r.2.2.2)
def zhand (hs : List (Nat × Nat × Nat × Nat)) (pc x : Nat) : Option Nat := (hs.find? (fun q => decide (q.1 ≤ pc) && decide (pc < q.2.1) && q.2.2.2 == x)).map (fun q => q.2.2.1)
def zcov (hs : List (Nat × Nat × Nat × Nat)) (pc : Nat) : Bool := hs.any (fun q => decide (q.1 ≤ pc) && decide (pc < q.2.1))
def zRun (T : zTb) (C : Nat → List Value → zH → zRs → Prop) (M : zM) : Nat → zG → zRs → Prop
  | 0, _, _ => False
  | n + 1, g, r => match zstep T M g with
    | none => False
    | some (.inl (g', dc, ds)) => ∃ r', zRun T C M n g' r' ∧ r = zadd dc ds r'
    | some (.inr (.inl e)) => r = e
    | some (.inr (.inr (mi, as, pc, l, rest, h))) => ∃ rc, C mi as h rc ∧ match rc.1 with
      | .inl v => ∃ r', zRun T C M n (pc + 3, l, v.toList ++ rest, rc.2.1) r' ∧ r = zadd rc.2.2.1 rc.2.2.2 r'
      | .inr x => match zhand M.2.2.2.2.2.2 pc x with
        | some hp => ∃ r', zRun T C M n (hp, l, [.retAddr 0], rc.2.1) r' ∧ r = zadd rc.2.2.1 rc.2.2.2 r'
        | none => zcov M.2.2.2.2.2.2 pc = false ∧ r = rc
/-- what method mi does with the arguments as over the heap h, with calls at most d deep -/
def zX (T : zTb) : Nat → Nat → List Value → zH → zRs → Prop
  | 0, _, _, _, _ => False
  | d + 1, mi, as, h, r => ∃ M n, zTms T mi = some M ∧ zcat as ≤ M.2.2.2.1 ∧ zRun T (zX T d) M n (0, lv_args 0 as, [], h) r
