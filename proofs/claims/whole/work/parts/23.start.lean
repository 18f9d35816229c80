/-! from the law's entry: the claim out of one abstract run of the law -/
def R_law : String := "ClassReaderLaw"
def lw_Q (_ : Array Value) (s : State) (o : Outcome) (t : State) : Prop := o = .returned (some (.int 1)) ∧ Framed s o t [] 601024 7293034
def lw_Z (below : List Frame) (a : Array Value) (s : State) : State → Prop := fun t => ∃ o, t.status = .running ∧ Ended t below o ∧ lw_Q a s o t
def qmL : zM := (11, ⟨"ClassReaderLaw", "law", "([I)Z"⟩, code, 9, some .boolean, false, [])
theorem zforget {s t : State} {L : List Loc} {k n : Nat} (h : s.sameButNew t L k n) (hL : ∀ q ∈ L, s.heap.size ≤ q.base) : s.sameButNew t [] k n := by
  obtain ⟨h1, h2, h3, h4, h5, h6⟩ := h
  refine ⟨h1, h2, h3, h4, h5, fun a c hc => ?_⟩
  obtain ⟨c', g1, g2, g3, g4⟩ := h6 a c hc
  refine ⟨c', g1, g2, g3, fun i _ => g4 i (fun hm => ?_)⟩
  have := hL _ hm
  have h7 := (Array.getElem?_eq_some_iff.mp hc).1
  exact absurd h7 (Nat.not_lt.mpr this)
theorem qckI_ok : (List.range qcl.length).all (fun ci => qnl.any (fun e => e.2.2 == ci)) = true := by decide +kernel
/-- the classes' numbers and the kinds of arrays, at a start where the words hold -/
theorem zknown {s : State} {args : Array Value} (hts : ∀ w ∈ qTs, w.before args s = true) : ∃ (D : va_G) (tys : List (ClassId × FieldType)), zTys tys ∧ va_K D qcl tys s := by
  have hinst : ∀ (ci : Nat) (q : vw_C), qcl[ci]? = some q → (Jvm.Cond.instantiable q.1 q.2.2).before args s = true := by
    intro ci q hq
    have h1 := List.all_eq_true.mp qckI_ok ci (List.mem_range.mpr (List.getElem?_eq_some_iff.mp hq).1)
    obtain ⟨e, he, h2⟩ := List.any_eq_true.mp h1
    have h3 : e.2.2 = ci := by simpa using h2
    refine hts _ (qTs_N (List.mem_flatMap.mpr ⟨e, he, ?_⟩))
    unfold qwN
    rw [h3, hq]
    simp
  have hk : ∀ k : Nat, ∃ q : ClassId × (Nat → Nat), ∀ r : vw_C, qcl[k]? = some r → u_Kn s r.1 r.2.1 r.2.2 q.1 q.2 := by
    intro k
    cases hr : qcl[k]? with
    | none => exact ⟨(0, fun _ => 0), fun r h => by cases h⟩
    | some r =>
      obtain ⟨cC, iS, h⟩ := u_known (T := r.2.1) (N := r.2.2) hts (fun w hw => qTs_C (List.mem_flatMap.mpr ⟨r, List.mem_of_getElem? hr, hw⟩)) (hinst k r hr)
      exact ⟨(cC, iS), fun r' h' => by cases h'; exact h⟩
  obtain ⟨f, hf⟩ := Classical.axiomOfChoice hk
  have harr : ∀ t : FieldType, Jvm.Cond.arrayClass t ∈ qTs → (∀ n, t ≠ .object n) → ∃ cA, ArrOfT s cA t ∧ va_RA s cA t := by
    intro t ht hno
    obtain ⟨c, k, comp, h1, h2, h3⟩ := Cond.arrayClass_spec (hts _ ht)
    exact ⟨c, fun n z => ⟨fun k h => (by cases h), k, h2, comp, h3⟩, by cases t <;> first | exact absurd rfl (hno _) | exact h1⟩
  obtain ⟨a, ha1, ha2⟩ := harr .int (qTs_A (by simp)) (fun n h => by cases h)
  obtain ⟨b, hb1, hb2⟩ := harr .boolean (qTs_A (by simp)) (fun n h => by cases h)
  obtain ⟨c, hc1, hc2⟩ := harr .long (qTs_A (by simp)) (fun n h => by cases h)
  obtain ⟨d, hd1, hd2⟩ := harr .double (qTs_A (by simp)) (fun n h => by cases h)
  refine ⟨(fun k => (f k).1, fun k => (f k).2), [(a, .int), (b, .boolean), (c, .long), (d, .double)], ⟨a, b, c, d, rfl⟩, fun k r hr => hf k r hr, fun k q hq => ?_⟩
  match k, hq with
  | 0, hq => cases hq; exact ⟨ha1, ha2⟩
  | 1, hq => cases hq; exact ⟨hb1, hb2⟩
  | 2, hq => cases hq; exact ⟨hc1, hc2⟩
  | 3, hq => cases hq; exact ⟨hd1, hd2⟩
  | k + 4, hq => simp at hq
theorem zlaw_start {p : Program} {e : Env} {s : State} {m : MethodId} {below : List Frame} {meth : Method} {c : Code} (l : Launch) {b : Nat} (hfl : ∀ e : Env, l.admits e → e.platform.stackTraces = false)
    (hx : p.tables.exec = Jvm.exec) (hb : c.code = code) (hr : meth.sig.returnType = some .boolean) (hml : c.maxLocals = 9) (hown : s.vm.findClass R_law = some m.cls) (hts : ∀ w ∈ lw_tbl, w.before #[Value.ref b] s = true) (hlocks : meth.locks = false) (hexc : ∀ q ∈ c.exceptionTable.toList, ∀ pc, covers q pc = false)
    (x : qExt) (sk : Nat → Option Nat) (sa : Nat → Nat) (zst : State → Prop) (hz : zst s) (hz1 : ∀ U, zst U → qst1 s.heap.size U) (hstay : zStay s.heap.size zst) (hext : zExtOK l (qT x sk) qTs (qNs ++ qXs) sa s.heap.size zst) (hsk : zSkOK (qT x sk) sa s.heap.size zst)
    {kS : Nat} (hkS : 0 < kS ∧ sa kS = b) {d n mc ms : Nat} {h' : zH} (hrun : zRun (qT x sk) (zX (qT x sk) d) qmL n (0, [(0, .retAddr kS)], [], []) (.inl (some (.int 1)), h', mc, ms)) (hd : d ≤ 500) (hmc : mc ≤ 601024) (hms : ms ≤ 7293034) :
    W p l e room_1 s m #[Value.ref b] below meth c s.heap [] 0 0 (lw_Z below #[Value.ref b] s) (entryFrame m ([Value.ref b] : List Value).toArray 9) := by
  have htsQ : ∀ w ∈ qTs ++ (qNs ++ qXs), w.before #[Value.ref b] s = true := by
    intro w hw
    rcases List.mem_append.mp hw with q | q
    · exact hts w (qTs_in w q)
    · exact qst0_Ns (hz1 s hz).1 w q _
  obtain ⟨D, tys, hty, hK⟩ := zknown (fun w hw => htsQ w (List.mem_append_left _ hw))
  have hCC := zsound (l := l) (D := D) (tys := tys) (sa := sa) (xn := qxn) (n0 := s.heap.size) (zst := zst) (T := qT x sk) (Ts := qTs) (Ns := qNs ++ qXs) (zcw := qcw) (qtabs x sk qXs) hty hstay hext (qthr l hfl x sk s.heap.size (fun U hU => (hz1 U hU).1)) (qhan l x sk hz1) hsk (fun U hU => qst0_Ns (hz1 U hU).1) d
  have hl := lv_entry ([.ref b]) (n := 9) (Nat.le_of_ble_eq_true rfl)
  have K := zbody (p := p) (l := l) (e := e) (R := room_1) (s := s) (m := m) (sargs := #[Value.ref b]) (below := below) (meth := meth) (c := c) (D := D) (tys := tys) (sa := sa) (xn := qxn) (n0 := s.heap.size) (zst := zst) (T := qT x sk) (Ts := qTs) (Ns := qNs ++ qXs) (zcw := qcw) (M := qmL) (C := "ClassReaderLaw") (d := d) (mc := mc) (ms := ms) (mi0 := 0) (CC := zX (qT x sk) d)
    hx hb hml hr hlocks (fun q => by cases q) rfl hown (fun h => absurd rfl h) (fun _ => hexc) (qtabs x sk qXs) hty hstay hext (qthr l hfl x sk s.heap.size (fun U hU => (hz1 U hU).1)) (qhan l x sk hz1) hsk htsQ hz (Nat.le_refl _) hK
    (by show d + 31 ≤ 2048; omega) (by decide) (by show d * 100 + 700 ≤ 84000; omega) (by decide) hmc hms hCC []
    n _ _ hrun [] 0 0 s.heap [] [] (lv_args 0 [.ref b]) _ [] ⟨rfl, rfl, fun i e h => by simp at h⟩ (fun k q h => by simp at h) ⟨fun i j p q h => by simp at h, fun k q h => by simp at h⟩ va_S.rf ⟨rfl, ⟨b, rfl, fun _ => hkS.2.symm⟩, True.intro⟩ hl True.intro (Nat.zero_add _) (Nat.zero_add _)
  rw [lg_entry_eq]
  refine W.mono (fun t ht => ?_) K
  obtain ⟨o, h1, h2, ⟨⟨xs, -, hout⟩, -⟩, LL, ⟨hW, hsame⟩, hL⟩ := ht
  obtain ⟨cv, rfl, hcv⟩ := hout
  cases (show cv = .int 1 from hcv)
  exact ⟨_, h1, h2, rfl, ⟨_, rfl⟩, hW, (zforget hsame hL).mono hmc hms⟩
