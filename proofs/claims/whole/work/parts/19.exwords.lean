/-! the words on exceptions (places printed by wip/whole/gen_tables.py) -/
def qxn : Nat → String := fun x => match x with
  | 0 => "java/lang/IllegalArgumentException"
  | 1 => "java/lang/UnsupportedOperationException"
  | 2 => "java/lang/IllegalStateException"
  | _ => "java/lang/ArithmeticException"
def qxnm : List String := ["java/lang/RuntimeException", "java/lang/Exception"]
def qnr (w : Jvm.Cond) : Bool := match w with
  | .isRef _ => false
  | .laysStatic _ _ _ => false
  | _ => true
def qxA (e : Nat × Nat × Nat × Nat) : List Jvm.Cond := [.classLink (qown e.1) e.2.1 (qxn e.2.2.1), .instantiable (qxn e.2.2.1) 6, .initialized (qxn e.2.2.1)] ++ (Bundle.ownAtoms0 (qown e.1) e.2.2.2 (qxn e.2.2.1) qxnm).filter qnr
def qXs : List Jvm.Cond := qxl.flatMap qxA
set_option maxRecDepth 100000 in
set_option maxHeartbeats 4000000 in
theorem qxin_0 : qxA (1, 25, 0, 27) = ([(2, 72), (2, 73), (1, 13), (1, 10), (2, 94), (2, 103), (2, 108), (2, 111), (2, 113), (2, 95), (2, 96), (1, 39), (1, 40), (2, 97), (2, 102), (2, 109), (2, 126), (2, 84), (2, 127), (2, 86), (2, 128), (2, 88), (2, 98), (2, 100), (2, 90), (2, 115), (2, 116), (2, 117), (2, 118), (2, 75), (2, 118), (2, 119), (2, 120), (2, 121), (2, 77), (2, 121), (2, 122), (2, 123), (2, 95), (2, 79), (2, 114), (2, 73), (2, 74), (2, 81), (2, 82), (2, 83), (2, 85), (2, 87), (2, 89), (2, 93), (2, 92), (2, 91)] : List (Nat × Nat)).filterMap qget := rfl
set_option maxRecDepth 100000 in
set_option maxHeartbeats 4000000 in
theorem qxin_1 : qxA (1, 28, 1, 30) = ([(2, 151), (2, 152), (1, 14), (1, 10), (2, 94), (2, 103), (2, 108), (2, 111), (2, 113), (2, 95), (2, 96), (1, 39), (1, 40), (2, 97), (2, 102), (2, 109), (2, 126), (2, 84), (2, 127), (2, 86), (2, 128), (2, 88), (2, 98), (2, 100), (2, 90), (2, 161), (2, 162), (2, 163), (2, 118), (2, 75), (2, 118), (2, 119), (2, 120), (2, 121), (2, 77), (2, 121), (2, 122), (2, 123), (2, 95), (2, 79), (2, 160), (2, 152), (2, 153), (2, 154), (2, 107), (2, 155), (2, 156), (2, 157), (2, 158), (2, 93), (2, 92), (2, 159)] : List (Nat × Nat)).filterMap qget := rfl
set_option maxRecDepth 100000 in
set_option maxHeartbeats 4000000 in
theorem qxin_2 : qxA (0, 217, 2, 219) = ([(5, 68), (5, 69), (1, 30), (1, 10), (2, 94), (2, 103), (2, 108), (2, 111), (2, 113), (2, 95), (2, 96), (1, 39), (1, 40), (2, 97), (2, 102), (2, 109), (2, 126), (2, 84), (2, 127), (2, 86), (2, 128), (2, 88), (2, 98), (2, 100), (2, 90), (5, 78), (5, 79), (5, 80), (2, 118), (2, 75), (2, 118), (2, 119), (2, 120), (2, 121), (2, 77), (2, 121), (2, 122), (2, 123), (2, 95), (2, 79), (5, 77), (5, 69), (5, 70), (5, 71), (2, 106), (5, 72), (5, 73), (5, 74), (5, 75), (2, 93), (2, 92), (5, 76)] : List (Nat × Nat)).filterMap qget := rfl
set_option maxRecDepth 100000 in
set_option maxHeartbeats 4000000 in
theorem qxin_3 : qxA (10, 24, 3, 26) = ([(5, 110), (5, 111), (1, 32), (1, 10), (2, 94), (2, 103), (2, 108), (2, 111), (2, 113), (2, 95), (2, 96), (1, 39), (1, 40), (2, 97), (2, 102), (2, 109), (2, 126), (2, 84), (2, 127), (2, 86), (2, 128), (2, 88), (2, 98), (2, 100), (2, 90), (5, 120), (5, 121), (5, 122), (2, 118), (2, 75), (2, 118), (2, 119), (2, 120), (2, 121), (2, 77), (2, 121), (2, 122), (2, 123), (2, 95), (2, 79), (5, 119), (5, 111), (5, 112), (5, 113), (2, 105), (5, 114), (5, 115), (5, 116), (5, 117), (2, 93), (2, 92), (5, 118)] : List (Nat × Nat)).filterMap qget := rfl
theorem qXs_in : ∀ w ∈ qXs, w ∈ lw_tbl := by
  intro w hw
  obtain ⟨e, he, hw⟩ := List.mem_flatMap.mp hw
  simp only [qxl, List.mem_cons, List.not_mem_nil, or_false] at he
  rcases he with rfl | rfl | rfl | rfl
  · exact qget_in qxin_0 w hw
  · exact qget_in qxin_1 w hw
  · exact qget_in qxin_2 w hw
  · exact qget_in qxin_3 w hw
set_option maxRecDepth 100000 in
set_option maxHeartbeats 4000000 in
theorem qXs_good : qXs.all (fun w => w.onTables && (w.keepsFace || w.castAtom)) = true := by decide +kernel
