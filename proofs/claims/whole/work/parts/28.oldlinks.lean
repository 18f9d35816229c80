/-! the links that reach the old world (printed by wip/whole/gen_links.py) -/
def qgl : List (Nat × Nat × Nat) := [(14, 1053, 1), (14, 38, 0), (5, 132, 2), (5, 147, 4), (5, 97, 3)]
def qgf : List (Nat × Nat × Nat) := [(14, 9, 1), (14, 15, 0)]
def qgn : List (Nat × Nat × Nat) := [(5, 136, 2), (5, 139, 3), (5, 84, 5), (5, 91, 4)]
def qgr : List (Nat × Nat × Nat) := [(9, 25, 100), (9, 30, 102), (9, 39, 104), (5, 151, 106), (6, 167, 108), (7, 97, 110), (7, 99, 112), (7, 101, 114), (7, 103, 116), (7, 105, 118), (7, 107, 120), (7, 109, 122), (7, 111, 124), (7, 113, 126), (7, 95, 128)]
def qgt : List (Nat × Nat × String) := [(9, 25, "<init>"), (9, 30, "<clinit>"), (9, 39, "V"), (5, 151, "Ljava/lang/String;"), (6, 167, "()V"), (7, 97, "byte"), (7, 99, "char"), (7, 101, "double"), (7, 103, "float"), (7, 105, "int"), (7, 107, "long"), (7, 109, "short"), (7, 111, "boolean"), (7, 113, "void"), (7, 95, "[]")]
def qgo : List (Nat × Nat) := [(5, 103)]
def qks : Nat := 14
def qSV (j : Nat) : String × String × String := match j with
  | 0 => ("java/lang/String", "COMPACT_STRINGS", "Z")
  | 1 => ("jdk/internal/util/Preconditions", "SIOOBE_FORMATTER", "Ljava/util/function/BiFunction;")
  | 2 => ("ClassReader$Attributes", "ALL", "[LClassReader$Known;")
  | 3 => ("ClassReader$1", "$SwitchMap$ClassReader$Known", "[I")
  | _ => ("ClassReader$Known", "OTHER", "LClassReader$Known;")
def qFV (j : Nat) : String × String × String := match j with
  | 0 => ("java/lang/String", "coder", "B")
  | 1 => ("java/lang/String", "value", "[B")
  | 2 => ("ClassReader$Known", "place", "I")
  | 3 => ("ClassReader$Known", "word", "Ljava/lang/String;")
  | 4 => ("ClassReader$Known", "bit", "I")
  | _ => ("ClassReader$Known", "rivals", "I")
def qwG (e : Nat × Nat × Nat) : List Jvm.Cond := [.fieldLink (qown e.1) e.2.1 (qSV e.2.2).1 (qSV e.2.2).2.1 (qSV e.2.2).2.2]
def qwH (e : Nat × Nat × Nat) : List Jvm.Cond := [.fieldLink (qown e.1) e.2.1 (qFV e.2.2).1 (qFV e.2.2).2.1 (qFV e.2.2).2.2]
def qwI (e : Nat × Nat × Nat) : List Jvm.Cond := [.fieldLinkNest (qown e.1) e.2.1 (qFV e.2.2).1 (qFV e.2.2).2.1 (qFV e.2.2).2.2 "ClassReader"]
def qwO (e : Nat × Nat) : List Jvm.Cond := qoWs "ClassReader$Known" (qown e.1) e.2
/-- words that stay, at every state -/
def qEl : List Jvm.Cond := qgl.flatMap qwG ++ (qgf.flatMap qwH ++ qgo.flatMap qwO)
def qEn : List Jvm.Cond := qgn.flatMap qwI
/-- words that are needed at the start alone -/
def qwR (e : Nat × Nat × String) : List Jvm.Cond := [.stringRef (qown e.1) e.2.1 e.2.2]
def qwV (j : Nat) : List Jvm.Cond := [.laysStatic (qSV j).1 (qSV j).2.1 (qSV j).2.2, .initialized (qSV j).1]
def qwT : List Jvm.Cond := [.laysStatic Bundle.tN "UNASSIGNED_STACK" Bundle.steD, .laysStatic Bundle.tN "SUPPRESSED_SENTINEL" Bundle.listD, .initialized Bundle.tN]
def qEw : List Jvm.Cond := qgt.flatMap qwR ++ ((List.range 5).flatMap qwV ++ qwT)
set_option maxRecDepth 100000 in
set_option maxHeartbeats 4000000 in
theorem qin_G : ∀ w ∈ qgl.flatMap qwG, w ∈ lw_tbl := qget_in (show qgl.flatMap qwG = ([(3, 44), (3, 66), (4, 177), (4, 184), (4, 193)] : List (Nat × Nat)).filterMap qget from rfl)
set_option maxRecDepth 100000 in
set_option maxHeartbeats 4000000 in
theorem qin_H : ∀ w ∈ qgf.flatMap qwH, w ∈ lw_tbl := qget_in (show qgf.flatMap qwH = ([(3, 190), (3, 191)] : List (Nat × Nat)).filterMap qget from rfl)
set_option maxRecDepth 100000 in
set_option maxHeartbeats 4000000 in
theorem qin_I : ∀ w ∈ qEn, w ∈ lw_tbl := qget_in (show qEn = ([(7, 169), (7, 170), (7, 171), (7, 172)] : List (Nat × Nat)).filterMap qget from rfl)
set_option maxRecDepth 100000 in
set_option maxHeartbeats 4000000 in
theorem qin_O : ∀ w ∈ qgo.flatMap qwO, w ∈ lw_tbl := qget_in (show qgo.flatMap qwO = ([(4, 195), (4, 196), (4, 198), (4, 199), (1, 27), (4, 200), (7, 173)] : List (Nat × Nat)).filterMap qget from rfl)
set_option maxRecDepth 100000 in
set_option maxHeartbeats 4000000 in
theorem qin_R : ∀ w ∈ qgt.flatMap qwR, w ∈ lw_tbl := qget_in (show qgt.flatMap qwR = ([(4, 18), (4, 47), (4, 63), (4, 205), (5, 31), (5, 184), (5, 185), (5, 186), (5, 187), (5, 188), (5, 189), (5, 190), (5, 191), (5, 192), (5, 199)] : List (Nat × Nat)).filterMap qget from rfl)
set_option maxRecDepth 100000 in
set_option maxHeartbeats 4000000 in
theorem qin_V : ∀ w ∈ (List.range 5).flatMap qwV, w ∈ lw_tbl := qget_in (show (List.range 5).flatMap qwV = ([(2, 198), (1, 18), (3, 45), (1, 23), (4, 178), (1, 6), (4, 194), (1, 29), (4, 185), (1, 28)] : List (Nat × Nat)).filterMap qget from rfl)
set_option maxRecDepth 100000 in
set_option maxHeartbeats 4000000 in
theorem qin_T : ∀ w ∈ qwT, w ∈ lw_tbl := qget_in (show qwT = ([(2, 99), (2, 101), (1, 10)] : List (Nat × Nat)).filterMap qget from rfl)
def qwCl : List Jvm.Cond := (List.range 4).map (fun x => .classLink "ClassReaderLaw" (qcatch x) (qxn x))
set_option maxRecDepth 100000 in
set_option maxHeartbeats 4000000 in
theorem qin_Cl : ∀ w ∈ qwCl, w ∈ lw_tbl := qget_in (show qwCl = ([(2, 54), (2, 55), (5, 59), (5, 91)] : List (Nat × Nat)).filterMap qget from rfl)
def qNcp : List (Nat × Nat) := [(0, 1), (0, 2), (0, 3), (1, 0), (1, 2), (1, 3), (2, 0), (2, 1), (2, 3), (3, 0), (3, 1), (3, 2)]
set_option maxRecDepth 100000 in
set_option maxHeartbeats 4000000 in
theorem qNC_in : ∀ w ∈ qNcp.map (fun q => Jvm.Cond.not (.castable (qxn q.1) (qxn q.2))), w ∈ qN := qN_in (show qNcp.map (fun q => Jvm.Cond.not (.castable (qxn q.1) (qxn q.2))) = ([374, 389, 404, 359, 390, 405, 363, 378, 409, 364, 379, 394] : List Nat).filterMap (fun k => qN[k]?) from rfl)
theorem qEl_in : ∀ w ∈ qEl, w ∈ lw_tbl := by
  intro w hw
  unfold qEl at hw
  rcases List.mem_append.mp hw with h | h
  · exact qin_G w h
  rcases List.mem_append.mp h with h | h
  · exact qin_H w h
  · exact qin_O w h
theorem qEw_in : ∀ w ∈ qEw, w ∈ lw_tbl := by
  intro w hw
  unfold qEw at hw
  rcases List.mem_append.mp hw with h | h
  · exact qin_R w h
  rcases List.mem_append.mp h with h | h
  · exact qin_V w h
  · exact qin_T w h
set_option maxRecDepth 100000 in
theorem qEl_good : qEl.all (fun w => w.onTables && (w.keepsFace || w.castAtom)) = true := by decide +kernel
