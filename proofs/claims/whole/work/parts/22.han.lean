/-! the law's handlers -/
def qst1 (n0 : Nat) (U : State) : Prop := qst0 n0 U ∧ (∀ x, x < 4 → (Jvm.Cond.classLink "ClassReaderLaw" (qcatch x) (qxn x)).before #[] U = true) ∧
  (∀ x, x < 4 → ∀ y, y < 4 → ∀ c1 c2, U.vm.findClass (qxn x) = some c1 → U.vm.findClass (qxn y) = some c2 → U.vm.assignable c1 c2 = decide (x = y))
theorem qst1_stay (n0 : Nat) : ∀ s U : State, qst1 n0 s → s.WarmedH U.vm → (∀ q : Nat, q < n0 → U.heap[q]? = s.heap[q]?) → qst1 n0 U := by
  intro s U ⟨h1, h2, h3⟩ hW hq
  refine ⟨qst0_stay n0 s U h1 hW hq, fun x hx => zkeep rfl hW (h2 x hx), fun x hx y hy c1 c2 e1 e2 => ?_⟩
  rw [hW.alike.findClass] at e1 e2
  rw [hW.alike.assignable]
  exact h3 x hx y hy c1 c2 e1 e2
def qinv (ct : Nat) : Nat := if ct = qcatch 0 then 0 else if ct = qcatch 1 then 1 else if ct = qcatch 2 then 2 else 3
theorem qinv_ok : ∀ x, x < 4 → qinv (qcatch x) = x ∧ qcatch x ≠ 0 := by decide
def qckH (M : zM) : Bool := M.2.2.2.2.2.2.isEmpty || (M.2.1.cls == "ClassReaderLaw" && M.2.2.2.2.2.2.all (fun q => decide (q.2.2.2 < 4)))
set_option maxRecDepth 100000 in
theorem qckH_ok : qms.all qckH = true := by decide +kernel
theorem zfindMap {α β γ : Type} {f : α → γ} {g : β → γ} {P : α → Bool} {P' : β → Bool} : ∀ {es : List α} {hs : List β}, es.map f = hs.map g → (∀ y ∈ es, ∀ q ∈ hs, f y = g q → P y = P' q) → ∀ {q0}, hs.find? P' = some q0 → ∃ y0, es.find? P = some y0 ∧ f y0 = g q0 := by
  intro es
  induction es with
  | nil => intro hs h hP q0 hf; cases hs with
    | nil => cases hf
    | cons b hs => cases h
  | cons a es ih =>
    intro hs h hP q0 hf
    cases hs with
    | nil => cases h
    | cons b hs =>
      obtain ⟨h1, h2⟩ := List.cons.inj h
      have hab := hP a List.mem_cons_self b List.mem_cons_self h1
      cases hb : P' b with
      | true =>
        rw [List.find?_cons_of_pos (by simpa using hb)] at hf
        cases hf
        exact ⟨a, by rw [List.find?_cons_of_pos (by rw [hab]; exact hb)], h1⟩
      | false =>
        rw [List.find?_cons_of_neg (by simp [hb])] at hf
        obtain ⟨y0, g1, g2⟩ := ih h2 (fun y hy q hq => hP y (List.mem_cons_of_mem _ hy) q (List.mem_cons_of_mem _ hq)) hf
        exact ⟨y0, by rw [List.find?_cons_of_neg (by rw [hab, hb]; decide)]; exact g1, g2⟩
theorem zmemMap {α β γ : Type} {f : α → γ} {g : β → γ} {es : List α} {hs : List β} (h : es.map f = hs.map g) {y : α} (hy : y ∈ es) : ∃ q ∈ hs, f y = g q := by
  have : f y ∈ hs.map g := by rw [← h]; exact List.mem_map_of_mem hy
  obtain ⟨q, hq, e⟩ := List.mem_map.mp this
  exact ⟨q, hq, e.symm⟩
theorem qhan (l : Launch) (x : qExt) (sk : Nat → Option Nat) {Ts Ns : List Jvm.Cond} {n0 : Nat} {zst : State → Prop} (hz0 : ∀ U, zst U → qst1 n0 U) : zHanOK l (qT x sk) Ts Ns qcw qxn zst := by
  intro p e R s m sargs below meth c H locs cells slots Q M mi pc xx b ls rest hM hhs hcw hnm hmeth hcode hts hz hexc
  have hM : qms[mi]? = some M := hM
  obtain ⟨-, hlk, hasg⟩ := hz0 s hz
  have hck := List.all_eq_true.mp qckH_ok _ (List.mem_of_getElem? hM)
  unfold qckH at hck
  rw [Bool.or_eq_true] at hck
  obtain ⟨hcl, hlt⟩ : M.2.1.cls = "ClassReaderLaw" ∧ ∀ q ∈ M.2.2.2.2.2.2, q.2.2.2 < 4 := by
    rcases hck with q | q
    · exact absurd (List.isEmpty_iff.mp q) hhs
    · simp only [Bool.and_eq_true, beq_iff_eq, List.all_eq_true, decide_eq_true_eq] at q
      exact q
  have hown : s.vm.findClass "ClassReaderLaw" = some m.cls := by rw [← hcl]; exact findClass_of_methodNamed hnm
  have hmap : c.exceptionTable.toList.map (fun h => (h.startPc, h.endPc, h.handlerPc, h.catchType)) = M.2.2.2.2.2.2.map (fun q => (q.1, q.2.1, q.2.2.1, qcatch q.2.2.2)) := by
    have hq : qcw M = .codeWith M.2.1 M.2.2.1 M.2.2.2.1 M.2.2.2.2.1 (M.2.2.2.2.2.2.map (fun q => (q.1, q.2.1, q.2.2.1, qcatch q.2.2.2))) := by
      unfold qcw
      split
      · next hh => exact absurd hh hhs
      · rfl
    rw [hq] at hcw
    obtain ⟨m9, meth', c', hn9, h1, h2, -, -, h5, -⟩ := Cond.codeWith_spec hcw
    cases hnm.symm.trans hn9
    cases hmeth.symm.trans h1
    cases hcode.symm.trans h2
    exact h5
  have hclass : ∀ y, y < 4 → ∃ cT, s.vm.findClass (qxn y) = some cT := by
    intro y hy
    obtain ⟨ct, k, h⟩ : ∃ ct, s.vm.findClass (qxn y) = some ct ∧ True := by
      have hpl : ({} : Platform).magicAccessors = ({} : Platform).magicAccessors := rfl
      obtain ⟨c', hc', -⟩ := Cond.classLink_spec hown (hlk y hy) {} hpl
      exact ⟨c', hc', trivial⟩
    exact ⟨ct, k⟩
  obtain ⟨cell, g1, g2, g3⟩ := hexc { s with heap := H } rfl (State.WarmedH.refl s)
  have g3 : s.vm.findClass (qxn xx) = some cell.cls := g3
  constructor
  · intro hp hzh k
    obtain ⟨q0, hf0, rfl⟩ := Option.map_eq_some_iff.mp hzh
    have hq0 := List.mem_of_find?_eq_some hf0
    have hq1 := List.find?_some hf0
    simp only [Bool.and_eq_true, beq_iff_eq] at hq1
    have hx4 : xx < 4 := by rw [← hq1.2]; exact hlt q0 hq0
    let tg : ExceptionTableEntry → ClassId := fun y => (s.vm.findClass (qxn (qinv y.catchType))).getD 0
    have htg : ∀ y ∈ c.exceptionTable.toList, ∃ q ∈ M.2.2.2.2.2.2, y.startPc = q.1 ∧ y.endPc = q.2.1 ∧ y.handlerPc = q.2.2.1 ∧ y.catchType = qcatch q.2.2.2 ∧ s.vm.findClass (qxn q.2.2.2) = some (tg y) := by
      intro y hy
      obtain ⟨q, hq, e1⟩ := zmemMap hmap hy
      simp only [Prod.mk.injEq] at e1
      obtain ⟨cT, hcT⟩ := hclass q.2.2.2 (hlt q hq)
      refine ⟨q, hq, e1.1, e1.2.1, e1.2.2.1, e1.2.2.2, ?_⟩
      show _ = some ((s.vm.findClass (qxn (qinv y.catchType))).getD 0)
      rw [e1.2.2.2, (qinv_ok _ (hlt q hq)).1, hcT]
      rfl
    obtain ⟨y0, hy0, e0⟩ := zfindMap (P := fun y => covers y pc && s.vm.assignable cell.cls (tg y)) hmap (fun y hy q hq e1 => by
      simp only [Prod.mk.injEq] at e1
      have h2 : s.vm.findClass (qxn q.2.2.2) = some (tg y) := by
        obtain ⟨cT, hcT⟩ := hclass q.2.2.2 (hlt q hq)
        show _ = some ((s.vm.findClass (qxn (qinv y.catchType))).getD 0)
        rw [e1.2.2.2, (qinv_ok _ (hlt q hq)).1, hcT]
        rfl
      have h3 := hasg xx hx4 q.2.2.2 (hlt q hq) _ _ g3 h2
      show (covers y pc && s.vm.assignable cell.cls (tg y)) = _
      rw [h3]
      unfold covers
      rw [e1.1, e1.2.1]
      congr 1
      rw [Bool.eq_iff_iff]
      simp only [decide_eq_true_eq, beq_iff_eq]
      exact eq_comm) hf0
    simp only [Prod.mk.injEq] at e0
    rw [← e0.2.2.1] at k
    refine zcaught tg g1 g2 ?_ (fun e he y hy hcv => ?_) hy0 k
    · obtain ⟨kk, h1, -⟩ := Vm.findClass_spec g3
      exact ⟨kk, h1⟩
    · obtain ⟨q, hq, -, -, -, e4, e5⟩ := htg y hy
      have hpl : e.platform.magicAccessors = ({} : Platform).magicAccessors := by rw [he.platform]
      obtain ⟨c', hc', hcl'⟩ := Cond.classLink_spec hown (hlk _ (hlt q hq)) e.platform hpl
      cases hc'.symm.trans e5
      rw [e4]
      exact ⟨(qinv_ok _ (hlt q hq)).2, hcl'⟩
  · intro hcov y hy
    obtain ⟨q, hq, e1⟩ := zmemMap hmap hy
    simp only [Prod.mk.injEq] at e1
    have h2 := hcov
    unfold zcov at h2
    rw [List.any_eq_false] at h2
    have h3 := h2 q hq
    unfold covers
    rw [e1.1, e1.2.1]
    simpa using h3
