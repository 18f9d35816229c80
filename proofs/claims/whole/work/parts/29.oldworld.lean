/-! the old world of this class as the abstract machine has it -/
/-- the term that tells old object k's address at the start -/
def qtm (k : Nat) : Option Term :=
  if 100 ≤ k then (qStr[(k - 100) / 2]?).map (fun e => if k % 2 = 0 then qtS e else qtV e)
  else if 10 ≤ k then (qKn[k - 10]?).map (fun e => qtK e.1)
  else match k with
    | 1 => some (.arg 0)
    | 2 => some qtA
    | 3 => some qtW
    | 4 => some (.static "jdk/internal/util/Preconditions" "SIOOBE_FORMATTER" "Ljava/util/function/BiFunction;")
    | _ => none
def qsa (a : Array Value) (s : State) (k : Nat) : Nat := match qtm k with
  | some t => match t.eval a s none [] s with
    | some (.ref b) => b
    | _ => 0
  | none => 0
theorem qsa_of {a : Array Value} {s : State} {k b : Nat} {t : Term} (h : qtm k = some t) (ht : t.eval a s none [] s = some (.ref b)) : qsa a s k = b := by
  unfold qsa
  rw [h]
  dsimp only
  rw [ht]
def qXo (o j : Nat) : Option Value :=
  if 100 ≤ o then (if o % 2 = 0 then (qStr[(o - 100) / 2]?).bind (fun _ => match j with
    | 0 => some (.int 0)
    | 1 => some (.retAddr (o + 1))
    | _ => none) else none)
  else if 10 ≤ o then (qKn[o - 10]?).bind (fun e => match j with
    | 2 => some (.int (Int32.ofNat e.2.2.1))
    | 3 => some (.retAddr (100 + 2 * e.2.1))
    | 4 => some (.int (Int32.ofNat e.2.2.2.1))
    | 5 => some (.int (Int32.ofNat e.2.2.2.2.1))
    | _ => none)
  else none
def qXa (L : Nat) (xs : Nat → Int32) (q : Nat) : Option (FieldType × Nat × (Nat → Value)) :=
  if 100 ≤ q then (if q % 2 = 1 then (qStr[(q - 100) / 2]?).map (fun e => (.byte, e.2.2.length, fun j => .int (Int32.ofNat (e.2.2.getD j 0)))) else none)
  else match q with
    | 1 => some (.int, L, fun j => .int (xs j))
    | 2 => some (.object "ClassReader$Known", qKn.length, fun j => .retAddr (10 + j))
    | 3 => some (.int, qSw.length, fun j => .int (Int32.ofNat (qSw.getD j 0)))
    | _ => none
def qXs' (fv : Value) (j : Nat) : Option (String × String × String × Value) := match j with
  | 0 => some ((qSV 0).1, (qSV 0).2.1, (qSV 0).2.2, .int 1)
  | 1 => some ((qSV 1).1, (qSV 1).2.1, (qSV 1).2.2, fv)
  | 2 => some ((qSV 2).1, (qSV 2).2.1, (qSV 2).2.2, .retAddr 2)
  | 3 => some ((qSV 3).1, (qSV 3).2.1, (qSV 3).2.2, .retAddr 3)
  | 4 => some ((qSV 4).1, (qSV 4).2.1, (qSV 4).2.2, .retAddr 10)
  | _ => none
def qX (L : Nat) (xs : Nat → Int32) (fv : Value) : zEx := (qXs' fv, qfind qgl, fun j => if j < 6 then some (qFV j) else none, fun k ix => match qfind qgf k ix with
  | some j => some j
  | none => qfind qgn k ix, qXo, qXa L xs, qfind qgr)
def qov (o : Nat) : Option Int32 := if 10 ≤ o ∧ o < 100 then (qKn[o - 10]?).map (fun e => Int32.ofNat e.2.2.2.2.2) else none
def qol (k ix : Nat) : Bool := qgo.any (fun e => e.1 == k && e.2 == ix)
/-- the Strings -/
def qsk (k : Nat) : Option Nat := if 100 ≤ k ∧ k % 2 = 0 ∧ (k - 100) / 2 < qStr.length then some qks else none
def qEx (L : Nat) (xs : Nat → Int32) (fv : Value) : qExt := zextO (qX L xs fv) qol qov
abbrev qTT (L : Nat) (xs : Nat → Int32) (fv : Value) : zTb := qT (qEx L xs fv) qsk
def qst2 (L : Nat) (xs : Nat → Int32) (fv : Value) (sa : Nat → Nat) (n0 : Nat) (U : State) : Prop := qst1 n0 U ∧ zOldOK (qX L xs fv) (qTT L xs fv) sa (fun q : Nat => n0 ≤ q) U ∧ zOldV "ClassReader$Known" qov sa (fun q : Nat => n0 ≤ q) U ∧
  (∀ k ci, qsk k = some ci → va_O "java/lang/String" (sa k) (fun q : Nat => n0 ≤ q) U U.heap) ∧ (∀ w ∈ qEl, w.before #[] U = true) ∧ (∀ w ∈ qEn, va_Nw w U)
theorem qEn_form {w : Jvm.Cond} (hw : w ∈ qEn) : ∃ a i b n d h, w = .fieldLinkNest a i b n d h := by
  obtain ⟨e, -, h⟩ := List.mem_flatMap.mp hw
  unfold qwI at h
  rw [List.mem_singleton] at h
  exact ⟨_, _, _, _, _, _, h⟩
theorem qst2_stay (L : Nat) (xs : Nat → Int32) (fv : Value) (sa : Nat → Nat) (n0 : Nat) : zStay n0 (qst2 L xs fv sa n0) := by
  intro s U ⟨h1, h2, h3, h4, h5, h6⟩ hW hq
  have hq' : ∀ a : Nat, a < s.heap.size → ¬ (fun q : Nat => n0 ≤ q) a → U.heap[a]? = s.heap[a]? := fun a _ ha => hq a (Nat.lt_of_not_le ha)
  refine ⟨qst1_stay n0 s U h1 hW hq, h2.stay hW hq, h3.stay hW hq, fun k ci hk => (va_O.moved hW.alike (h4 k ci hk)).kept hq', fun w hw => zkeep (List.all_eq_true.mp qEl_good w hw) hW (h5 w hw), fun w hw => ?_⟩
  obtain ⟨x1, x2, x3, x4, x5, x6, rfl⟩ := qEn_form hw
  exact va_Nw.warmF hW (h6 _ hw)
theorem qsk_ok (L : Nat) (xs : Nat → Int32) (fv : Value) (sa : Nat → Nat) (n0 : Nat) : zSkOK (qTT L xs fv) sa n0 (qst2 L xs fv sa n0) := by
  intro s ⟨h1, h2, h3, h4, h5, h6⟩ k ci C hk hC
  have hk : qsk k = some ci := hk
  have hC : qcn[ci]? = some C := hC
  have h0 : 0 < k ∧ ci = qks := by
    unfold qsk at hk
    split at hk
    · next h => cases hk; exact ⟨by omega, rfl⟩
    · cases hk
  obtain ⟨h0, rfl⟩ := h0
  have hS : C = "java/lang/String" := by
    have : qcn[qks]? = some "java/lang/String" := by decide +kernel
    exact Option.some.inj (hC.symm.trans this)
  subst hS
  obtain ⟨cell, g1, g2, g3, g4⟩ := h4 k _ hk
  exact ⟨h0, cell, ⟨Nat.lt_of_not_le g4, g1⟩, g2, g3⟩
theorem qSV_ok {fv : Value} {j : Nat} {q : String × String × String × Value} (h : qXs' fv j = some q) : q.1 = (qSV j).1 ∧ q.2.1 = (qSV j).2.1 ∧ q.2.2.1 = (qSV j).2.2 := by
  unfold qXs' at h
  split at h <;> first | (cases h; exact ⟨rfl, rfl, rfl⟩) | cases h
theorem qext_ok (l : Launch) (L : Nat) (xs : Nat → Int32) (fv : Value) (sa : Nat → Nat) (n0 : Nat) {Ts Ns : List Jvm.Cond} : zExtOK l (qTT L xs fv) Ts Ns sa n0 (qst2 L xs fv sa n0) := by
  refine zextO_ok (X := qX L xs fv) (ol := qol) (ov := qov) (E := "ClassReader$Known") rfl (fun s h => h.2.1) (fun s h => h.2.2.1) (fun s a h _ => ?_) (fun s a h _ => ?_)
  · obtain ⟨h1, h2, h3, h4, h5, h6⟩ := h
    have h5' : ∀ w ∈ qEl, w.before a s = true := fun w hw => by
      have hg := List.all_eq_true.mp qEl_good w hw
      simp only [Bool.and_eq_true] at hg
      exact va_tabs hg.1 rfl (h5 w hw)
    refine ⟨fun k ix j C q hC hj hq => ?_, fun k ix j C hC hj => ?_⟩
    · have hC : qcn[k]? = some C := hC
      have hm := qfind_mem (show qfind qgl k ix = some j from hj)
      obtain ⟨e1, e2, e3⟩ := qSV_ok (show qXs' fv j = some q from hq)
      rw [e1, e2, e3]
      refine Or.inl (h5' _ ?_)
      unfold qEl
      refine List.mem_append_left _ (List.mem_flatMap.mpr ⟨_, hm, ?_⟩)
      unfold qwG
      rw [List.mem_singleton, qown_eq hC]
    · have hC : qcn[k]? = some C := hC
      have hj : (match qfind qgf k ix with | some j => some j | none => qfind qgn k ix) = some j := hj
      split at hj
      · next j' hf =>
        cases hj
        have hm := qfind_mem hf
        have hlt : j < 6 := by
          have : qgf.all (fun e => decide (e.2.2 < 6)) = true := by decide
          simpa using List.all_eq_true.mp this _ hm
        refine ⟨qFV j, if_pos hlt, Or.inl (h5' _ ?_)⟩
        unfold qEl
        refine List.mem_append_right _ (List.mem_append_left _ (List.mem_flatMap.mpr ⟨_, hm, ?_⟩))
        unfold qwH
        rw [List.mem_singleton, qown_eq hC]
      · next hf =>
        have hm := qfind_mem hj
        have hlt : j < 6 := by
          have : qgn.all (fun e => decide (e.2.2 < 6)) = true := by decide
          simpa using List.all_eq_true.mp this _ hm
        refine ⟨qFV j, if_pos hlt, Or.inr ⟨"ClassReader", va_Nw.use rfl (h6 _ ?_)⟩⟩
        unfold qEn
        refine List.mem_flatMap.mpr ⟨_, hm, ?_⟩
        unfold qwI
        rw [List.mem_singleton, qown_eq hC]
  · obtain ⟨h1, h2, h3, h4, h5, h6⟩ := h
    have h5' : ∀ w ∈ qEl, w.before a s = true := fun w hw => by
      have hg := List.all_eq_true.mp qEl_good w hw
      simp only [Bool.and_eq_true] at hg
      exact va_tabs hg.1 rfl (h5 w hw)
    intro k ix C ho hC w hw
    have hC : qcn[k]? = some C := hC
    obtain ⟨e, he, h9⟩ := List.any_eq_true.mp (show qgo.any (fun e => e.1 == k && e.2 == ix) = true from ho)
    simp only [Bool.and_eq_true, beq_iff_eq] at h9
    obtain ⟨rfl, rfl⟩ := h9
    refine h5' w ?_
    unfold qEl
    refine List.mem_append_right _ (List.mem_append_right _ (List.mem_flatMap.mpr ⟨e, he, ?_⟩))
    unfold qwO
    rw [qown_eq hC]
    exact hw
