/-! a new exception, in a launch without stack traces: its constructor writes its own cell alone -/
theorem zisRef {C n d : String} {A : Nat → Prop} {s : State} {args : Array Value} (h : va_Zq C n d A s s.heap) : (Jvm.Cond.isRef (.static C n d)).before args s = true := by
  have key : ∀ v, va_Z C n d v A s s.heap → (Term.static C n d).eval args s none [] s = some v := by
    intro v hv
    obtain ⟨cf, kf, fi, f, a, cell, h1, h2, h3, h4, h5, h6, h7, -⟩ := hv
    simp [Term.eval, State.fieldNamed?, h1, h2, h4, h5, h6, h7]
  rcases h with h | ⟨t, h⟩
  · simp [Jvm.Cond.before, Jvm.Cond.holds, Jvm.Cond.value, key _ h]
  · simp [Jvm.Cond.before, Jvm.Cond.holds, Jvm.Cond.value, key _ h]
theorem zaS {C n d : String} {A : Nat → Prop} {s : State} {H : Heap} (h : va_Zq C n d A s H) {cf : ClassId} {kf : Class} {fi : Nat} {f : Field} {a : Nat} (h1 : s.fieldFound? C n d = some (cf, kf, fi, f)) (h2 : kf.statics = some a) : ¬ A a ∧ a < H.size := by
  rcases h with ⟨cf', kf', fi', f', a', cell, g1, g2, g3, g4, g5, g6, g7, g8⟩ | ⟨t, cf', kf', fi', f', a', cell, g1, g2, g3, g4, g5, g6, g7, g8⟩ <;>
  · cases g1.symm.trans h1
    cases g4.symm.trans h2
    exact ⟨g8, (Array.getElem?_eq_some_iff.mp g5).1⟩
section ZX
variable {p : Program} {l : Launch} {e : Env} {R : Room} {s : State} {m : MethodId} {sargs : Array Value} {below : List Frame} {meth : Method} {c : Code} {H : Heap} {locs : List Loc} {cells slots : Nat} {Q : State → Prop}
set_option maxHeartbeats 4000000 in
theorem zexInit (hx : p.tables.exec = Jvm.exec) (hfl : ∀ e : Env, l.admits e → e.platform.stackTraces = false) {cc : ByteArray} (hb : c.code = cc) {own X : String} {names : List String} {ic nL pc : Nat} (hml : c.maxLocals = nL) {ls : Array Slot} (hsize : ls.size = nL)
    (hown : s.vm.findClass own = some m.cls) (hcls : Bundle.fit X = true) (hnames : ∀ n ∈ names, Bundle.fit n = true) (h : ∀ a ∈ Bundle.ownAtoms0 own ic X names, a.before sargs s = true)
    {A : Nat → Prop} (hZ : va_Zq Bundle.tN "UNASSIGNED_STACK" Bundle.steD A s s.heap) (hlA : ∀ q ∈ locs, A q.base)
    {a : Nat} {cX : ClassId} {kX : Class} (hfX : s.vm.findClass X = some cX) (hkX : s.vm.classes[cX]? = some kX) (hcell : H[a]? = some (blank cX kX)) (hnew : s.heap.size ≤ a) {rest : List Value}
    (hdg : decode cc pc = .ok (.invokespecial ic, 3)) (hRf : names.length + 3 < R.frames) (hRl : (rest.map fun v => v.category).sum + (13 * (names.length + 1) + 41) ≤ R.locals)
    (kk : ∀ (cell' : Cell) (L : List Loc), cell'.cls = cX → cell'.vm.isStatics = false → (∀ q ∈ L, q.base = a) → W p l e R s m sargs below meth c (H.setIfInBounds a cell') (locs ++ L) cells slots Q (F0 m (pc + 3) ls rest)) :
    W p l e R s m sargs below meth c H locs cells slots Q (F0 m pc ls (.ref a :: rest)) := by
  intro T hT X0
  subst hT
  have htr := hfl e X0.admits
  have howns : e.platform.frameOwnsMonitors = true := by rw [X0.admits.platform]
  have hfin : e.platform.finalization = false := by rw [X0.admits.platform]
  have hpl : e.platform.magicAccessors = ({} : Platform).magicAccessors := by rw [X0.admits.platform]
  have a' : ∀ x, x ∈ Bundle.ownAtoms0 own ic X names → x.holds sargs s none s [] = true := fun x hx => h x hx
  obtain ⟨TT, Z, L, LZ, Y⟩ := ThrowableC.of_atoms (args := sargs) howns hfin hpl (fun x hx => h x (by simp [Bundle.ownAtoms0, hx]))
  obtain ⟨P1, Ps, hlen, L1, hL, hP1m, hlink1, hlink⟩ := Bundle.chain0 (args := sargs) hpl Y.init0 names X hcls hnames (fun x hx => h x (by simp [Bundle.ownAtoms0, hx]))
  have hfound : s.vm.findClass X = some P1.m.cls := findClass_of_methodNamed hP1m
  cases hfX.symm.trans hfound
  obtain ⟨c1, kX', hc1, hk, hord, -, -, hn6⟩ := Cond.instantiable_spec (a' (.instantiable X 6) (by simp [Bundle.ownAtoms0]))
  cases hc1.symm.trans hfound
  cases hkX.symm.trans hk
  have sel : ∀ {x : MethodName} {mx : MethodId}, s.methodNamed? x = some mx → x.cls ≠ "java/lang/invoke/MethodHandle" ∧ x.cls ≠ "java/lang/invoke/VarHandle" → (Jvm.Cond.selects X x x).holds sargs s none s [] = true → selectMethod e.platform s.vm P1.m.cls mx = .method mx := by
    intro x mx hm hne hsel
    obtain ⟨c2, r2, m2, q1, q2, q3, q4, -⟩ := Cond.selects_spec hsel
    cases q1.symm.trans hfound
    cases q2.symm.trans (State.methodFound?_of_named hm hne)
    cases q3.symm.trans hm
    rw [Launch.admits_selectMethod X0.admits]; exact q4
  have hsel0 := sel Y.fill0 (by decide) (a' (.selects X Bundle.tFill0 Bundle.tFill0) (by simp [Bundle.ownAtoms0]))
  have hselF := sel Y.fill (by decide) (a' (.selects X Bundle.tFill Bundle.tFill) (by simp [Bundle.ownAtoms0]))
  obtain ⟨cellS0, hcS0, hiss⟩ := Y.statics
  obtain ⟨u0, hu0⟩ := Cond.staticRefV Y.unassigned L.unassignedStatic L.statics hcS0 hiss (a' (.isRef (.static Bundle.tN "UNASSIGNED_STACK" Bundle.steD)) (by simp [Bundle.ownAtoms0]))
  obtain ⟨sen, hsen⟩ := Cond.staticRefV Y.sentinel L.sentinelStatic L.statics hcS0 hiss (a' (.isRef (.static Bundle.tN "SUPPRESSED_SENTINEL" Bundle.listD)) (by simp [Bundle.ownAtoms0]))
  obtain ⟨ci198, i198, fB, hk198, hg198, ha198, hsB, -, hnB, htB, hffB⟩ := Cond.ownField (t := .object "java/lang/Object") Y.found L.cls (by decide +kernel) (a' (.fieldLink Bundle.tN 198 Bundle.tN "backtrace" "Ljava/lang/Object;") (by simp [Bundle.ownAtoms0])) (a' (.lays Bundle.tN Bundle.tN "backtrace" "Ljava/lang/Object;") (by simp [Bundle.ownAtoms0])) e.platform hpl
  obtain ⟨haA, halt⟩ := zaS hZ Y.unassigned L.statics
  have hout' : ∀ i, (⟨TT.aS, i⟩ : Loc) ∉ locs := fun i hmem => haA (hlA _ hmem)
  obtain ⟨cellS, hcellS, heS, -, hkeep⟩ := X0.same.2.2.2.2.2 TT.aS cellS0 hcS0
  have hcellS : T.heap[TT.aS]? = some cellS := hcellS
  have hknownS : cellS.vm ≠ .unknown := by
    rw [heS]; intro hu
    rw [show cellS0.vm = .unknown from hu] at hiss
    cases hiss
  have hneS : TT.aS ≠ a := Nat.ne_of_lt (Nat.lt_of_lt_of_le halt hnew)
  obtain ⟨tyC, dC, hdC, hdnC⟩ := Cond.laysAt hfound hk Y.cause (a' (.lays X Bundle.tN "cause" "Ljava/lang/Throwable;") (by simp [Bundle.ownAtoms0]))
  obtain ⟨tyS, dS, hdS, hdnS⟩ := Cond.laysAt hfound hk Y.stack (a' (.lays X Bundle.tN "stackTrace" Bundle.steD) (by simp [Bundle.ownAtoms0]))
  obtain ⟨tyP, dP, hdP, hdnP⟩ := Cond.laysAt hfound hk Y.supp (a' (.lays X Bundle.tN "suppressedExceptions" Bundle.listD) (by simp [Bundle.ownAtoms0]))
  obtain ⟨tyB, dB, hdB, hdnB⟩ := Cond.laysAt hfound hk hffB (a' (.lays X Bundle.tN "backtrace" "Ljava/lang/Object;") (by simp [Bundle.ownAtoms0]))
  have bC := Cond.laysApart hdB hdC hdnB hdnC (by rw [hnB, Y.causeName]; decide)
  have bS := Cond.laysApart hdB hdS hdnB hdnS (by rw [hnB, Y.stackName]; decide)
  have bP := Cond.laysApart hdB hdP hdnB hdnP (by rw [hnB, Y.suppName]; decide)
  have hskip : SkipFacts TT e.platform s (fun u => u) u0 ((preparedCellV TT.toThrowableT (freshCell P1.m.cls kX) a u0 sen).withEntry T.cur) :=
    ⟨{ ci198 := ci198, i198 := i198, fBack := fB }, ⟨hk198, hg198, ha198, hsB⟩, by
      have := fresh_default (c := P1.m.cls) tyB
      rw [htB] at this
      simpa [preparedCellV, Cell.setSlot, Cell.withEntry, Array.getElem?_setIfInBounds, bC, bS, bP, bC.symm, bS.symm, bP.symm, defaultValue] using this, fun _ _ => rfl⟩
  obtain ⟨tm, methC, cdC, kC, vm₁, hnC, -, -, -, -, -, -, -, hW₁, st1⟩ := Steps.initCold (tb := p.tables) (e := e) (below := below) (s := s) (U := T) X0.here hx X0.warmed hpl hown (t := Bundle.init0 X) rfl rfl (Bundle.fit_spec hcls).2
    (a' (.methodLink own ic (Bundle.init0 X)) (by simp [Bundle.ownAtoms0])) (h (.instanceMethod (Bundle.init0 X)) (by cases names <;> simp [Bundle.ownAtoms0, Bundle.chain0Atoms, Bundle.passAtoms])) (bytes := Bundle.five) (maxL := 1) (h (.code (Bundle.init0 X) Bundle.five 1 none) (by cases names <;> simp [Bundle.ownAtoms0, Bundle.chain0Atoms, Bundle.passAtoms]))
    (f := F0 m pc ls (.ref a :: rest)) rfl (a := a) (rest := rest) rfl (by rw [hb]; exact hdg)
  cases hnC.symm.trans hP1m
  have X₁ := X0.noted hW₁
  obtain ⟨vm₂, X₂, st2⟩ := X₁.ctorPlainOffV hx (g := F0 m pc ls rest) rfl (hsize.trans hml.symm) TT L Z LZ (P1 :: Ps)
    (fun P hP => by rcases List.mem_cons.mp hP with rfl | hP; exact L1; exact hL P hP) ⟨hlink1, hlink⟩ (u0 := u0) (sen := sen) (self := a) (cell := freshCell P1.m.cls kX) (cellS := cellS)
    hcell (fun _ => by simp) (by simp) rfl rfl hsel0 hselF hcellS hneS hknownS (by rw [hkeep _ (hout' _)]; exact hu0) (by rw [hkeep _ (hout' _)]; exact hsen)
    (Takes.of_laid hk hord tyC (by rw [Y.causeType]; rfl)) (Takes.of_laid hk hord tyS (by rw [Y.stackType]; exact fits_refV_array _ u0)) (Takes.of_laid hk hord tyP (by rw [Y.suppType]; exact fits_refV_object _ sen)) Y.objLocals hskip htr [] (by rw [hb]; exact hdg)
    (by simp only [List.length_cons, hlen]; omega) (by simp only [List.length_cons, hlen]; exact (by show 2 * 0 + _ + _ ≤ _; omega))
  obtain ⟨t, st3, hq⟩ := kk ((preparedCellV TT.toThrowableT (freshCell P1.m.cls kX) a u0 sen).setSlot TT.fStack.slot u0.v) _ rfl rfl (fun q hq => by simp at hq; rcases hq with rfl | rfl | rfl | rfl <;> rfl) _ rfl X₂
  exact ⟨t, st1 _ (fun acts => by rw [doInvoke_state]; exact st2 _ st3), hq⟩
end ZX
