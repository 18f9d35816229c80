/-! calls and throws as rows of a walk -/
section ZR
variable {p : Program} {l : Launch} {e : Env} {R : Room} {s : State} {m : MethodId} {sargs : Array Value} {below : List Frame} {meth : Method} {c : Code} {H : Heap} {locs : List Loc} {cells slots : Nat} {Q : State → Prop}
/-- the walk, with the exception b on its way over the frame g -/
def zWT (p : Program) (l : Launch) (e : Env) (R : Room) (s : State) (m : MethodId) (args : Array Value) (below : List Frame) (meth : Method) (c : Code) (H : Heap) (locs : List Loc) (cells slots : Nat) (Q : State → Prop) (b : Nat) (g : JFrame) : Prop :=
  ∀ T : State, T.heap = H → Stand p l e R s m args below meth c T locs cells slots → ∃ t, Steps p.tables e below ((T.setTop g).pushFrame (.throwing b)) t ∧ Q t
/-- no handler covers the place: the method throws -/
theorem zWT.out {Qc : Array Value → State → Outcome → State → Prop} {free : Addr → Prop} {b : Nat} {g : JFrame} (hg : g.method = m) (hlocked : g.locked = none) (hentered : g.entered = []) (hout : ∀ x ∈ c.exceptionTable.toList, covers x g.pc = false) (hlocks : meth.locks = false)
    (hq : ∀ t : State, t.heap = H → s.WarmedH t.vm → Qc sargs s (.threw b) t) (hf : ∀ q ∈ locs, free q.base) : zWT p l e R s m sargs below meth c H locs cells slots (zMQ below Qc sargs s cells slots free) b g := by
  intro T hT X
  obtain ⟨h1, h2, h3, h4, h5⟩ := X.leaveThrown b hg hlocked hentered hout
  exact ⟨_, h1, .threw b, h2, h3, hq _ hT h4, locs, ⟨h4, h5⟩, hf⟩
variable {y : MethodName} {ws : List Jvm.Cond} {rm : Room} {Pc : Array Value → State → Prop} {Qc : Array Value → State → Outcome → State → Prop} {mc ms maxL pc ix : Nat} {free : Addr → Prop} {cc : ByteArray} {own : String} {ls : Array Slot} {As rest : List Value} {b : Nat}
/-- what the tables say of the callee -/
def zCode (y : MethodName) (maxL : Nat) (s : State) (args : Array Value) : Prop := ∃ (bytes : ByteArray) (ret : Option FieldType), (Jvm.Cond.code y bytes maxL ret).before args s = true ∨ ∃ hh, (Jvm.Cond.codeWith y bytes maxL ret hh).before args s = true
theorem zCode.spec (h : zCode y maxL s sargs) : ∃ (mk : MethodId) (methY : Method) (cY : Code), s.methodNamed? y = some mk ∧ s.vm.method? mk = some methY ∧ methY.code = some cY ∧ cY.maxLocals = maxL ∧ parseMethodDescriptor y.desc = some methY.sig := by
  obtain ⟨bytes, ret, h | ⟨hh, h⟩⟩ := h
  · obtain ⟨mk, hn⟩ := Cond.code_named h
    obtain ⟨methY, cY, h1, h2, -, h3, -, -, -, h5⟩ := Cond.code_spec hn h
    exact ⟨mk, methY, cY, hn, h1, h2, h3, h5⟩
  · obtain ⟨mk, methY, cY, hn, h1, h2, -, h3, -, -, -, h5⟩ := Cond.codeWith_spec h
    exact ⟨mk, methY, cY, hn, h1, h2, h3, h5⟩
/-- behind the entering of the callee: the two ways on -/
theorem zgo (hM : zMet l y ws rm Pc Qc mc ms free) (hb : c.code = cc) {T : State} {vm₁ : Vm} (X₁ : Stand p l e R s m sargs below meth c (T.setVm vm₁) locs cells slots) (hT : T.heap = H) {nL : Nat} (hml : c.maxLocals = nL) (hsize : ls.size = nL) {ig : Instr} (hdg : decode cc pc = .ok (ig, 3))
    (hst : (rest.map fun v => v.category).sum ≤ 16) (hcode : zCode y maxL s sargs) {mk : MethodId} (hn : s.methodNamed? y = some mk) (hws : ∀ w ∈ ws, ∀ (a' : Array Value) (U : State), s.WarmedH U.vm → w.before a' U = true) (hini : (Jvm.Cond.initialized y.cls).before sargs s = true)
    (hfr : rm.frames + 1 ≤ R.frames) (hlo : 16 + (maxL + 11) + rm.locals ≤ R.locals) (hrc : rm.cells = mc) (hrs : rm.slots = ms) (hc : cells + mc ≤ R.cells) (hs : slots + ms ≤ R.slots) {a : Array Value}
    (hP : ∀ U : State, U.heap = H → s.WarmedH U.vm → Pc a U)
    (kr : ∀ (v : Option Value) (st t : State) (L : List Loc), st.heap = H → s.WarmedH st.vm → st.WarmedH t.vm → Qc a st (.returned v) t → (∀ q ∈ L, free q.base) → W p l e R s m sargs below meth c t.heap (locs ++ L) (cells + mc) (slots + ms) Q (F0 m (pc + 3) ls (v.toList ++ rest)))
    (kt : ∀ (b : Nat) (st t : State) (L : List Loc), st.heap = H → s.WarmedH st.vm → st.WarmedH t.vm → Qc a st (.threw b) t → (∀ q ∈ L, free q.base) → zWT p l e R s m sargs below meth c t.heap (locs ++ L) (cells + mc) (slots + ms) Q b (F0 m pc ls rest)) :
    ∃ t, Steps p.tables e below (doInvoke e ((T.setVm vm₁).setTop (F0 m pc ls rest)) [] mk a).1 t ∧ Q t := by
  obtain ⟨mk', methY, cY, hn', hmY, hcY, hlY, -⟩ := hcode.spec
  cases hn.symm.trans hn'
  have hW₁ : s.WarmedH vm₁ := X₁.warmed
  obtain ⟨o, t, L, X', hL, hq, hWt, s1, s2⟩ := zback (a := a) (W0 := 16) (mk := mk) hM X₁ (g := F0 m pc ls rest) rfl (hsize.trans hml.symm) (by rw [hb]; exact hdg) (by show 2 * 0 + (rest.map fun v => v.category).sum ≤ 16; omega)
    (X₁.named hn) (show (T.setVm vm₁).vm.method? mk = some methY by rw [show (T.setVm vm₁).vm = vm₁ from rfl, hW₁.alike.method?]; exact hmY) hcY hlY hfr hlo hrc hrs hc hs
    (fun w hw => hws w hw _ _ hW₁) (word_at hW₁ (Or.inl (by first | rfl | simp [Jvm.Cond.onTables, Jvm.Cond.keeps, Jvm.Cond.steady])) hini) (hP _ hT hW₁)
  cases o with
  | returned v =>
    obtain ⟨t2, a1, b1⟩ := kr v ((T.setVm vm₁).calling (F0 m pc ls rest) mk a) t L hT hW₁ hWt hq hL ((({ T.setVm vm₁ with heap := t.heap, slotsUsed := t.slotsUsed } : State).setVm t.vm)) rfl X'
    exact ⟨t2, (s1 v rfl).trans a1, b1⟩
  | threw b =>
    obtain ⟨t2, a1, b1⟩ := kt b ((T.setVm vm₁).calling (F0 m pc ls rest) mk a) t L hT hW₁ hWt hq hL ((({ T.setVm vm₁ with heap := t.heap, slotsUsed := t.slotsUsed } : State).setVm t.vm)) rfl X'
    exact ⟨t2, (s2 b rfl).trans a1, b1⟩
/-- the method's link: its own, or a nest mate's -/
def zLk (own : String) (ix : Nat) (y : MethodName) (s : State) (args : Array Value) : Prop := (Jvm.Cond.methodLink own ix y).before args s = true ∨ ∃ host, (Jvm.Cond.methodLinkNest own ix y host).before args s = true
theorem zcallS (hx : p.tables.exec = Jvm.exec) (hb : c.code = cc) (hown : s.vm.findClass own = some m.cls) (hM : zMet l y ws rm Pc Qc mc ms free) (hlk : zLk own ix y s sargs) (hstat : (Jvm.Cond.static y).before sargs s = true) (hy : y.cls ≠ "java/lang/invoke/MethodHandle" ∧ y.cls ≠ "java/lang/invoke/VarHandle")
    {nL : Nat} (hml : c.maxLocals = nL) (hsize : ls.size = nL) (hdg : decode cc pc = .ok (.invokestatic ix, 3)) (hlen : (parseMethodDescriptor y.desc).map (fun d => d.parameters.length) = some As.length)
    (hst : (rest.map fun v => v.category).sum ≤ 16) (hcode : zCode y maxL s sargs) (hws : ∀ w ∈ ws, ∀ (a' : Array Value) (U : State), s.WarmedH U.vm → w.before a' U = true) (hini : (Jvm.Cond.initialized y.cls).before sargs s = true)
    (hfr : rm.frames + 1 ≤ R.frames) (hlo : 16 + (maxL + 11) + rm.locals ≤ R.locals) (hrc : rm.cells = mc) (hrs : rm.slots = ms) (hc : cells + mc ≤ R.cells) (hs : slots + ms ≤ R.slots)
    (hP : ∀ U : State, U.heap = H → s.WarmedH U.vm → Pc As.toArray U)
    (kr : ∀ (v : Option Value) (st t : State) (L : List Loc), st.heap = H → s.WarmedH st.vm → st.WarmedH t.vm → Qc As.toArray st (.returned v) t → (∀ q ∈ L, free q.base) → W p l e R s m sargs below meth c t.heap (locs ++ L) (cells + mc) (slots + ms) Q (F0 m (pc + 3) ls (v.toList ++ rest)))
    (kt : ∀ (b : Nat) (st t : State) (L : List Loc), st.heap = H → s.WarmedH st.vm → st.WarmedH t.vm → Qc As.toArray st (.threw b) t → (∀ q ∈ L, free q.base) → zWT p l e R s m sargs below meth c t.heap (locs ++ L) (cells + mc) (slots + ms) Q b (F0 m pc ls rest)) :
    W p l e R s m sargs below meth c H locs cells slots Q (F0 m pc ls (As.reverse ++ rest)) := by
  intro T hT X
  obtain ⟨mk, methY, cY, hn, hmY, hcY, hlY, hsig⟩ := id hcode.spec
  have hstatic : methY.isStatic = true := Cond.static_spec hn hmY hstat
  obtain ⟨kP, hkP, -⟩ := className_of_methodNamed hn
  have hinitP : kP.init = .initialized := Cond.initialized_spec (findClass_of_methodNamed hn) hkP hini
  have hl : As.length = methY.sig.parameters.length := by rw [hsig] at hlen; exact (Option.some.inj hlen).symm
  obtain ⟨vm₁, X₁, hstep₁⟩ : ∃ vm₁, Stand p l e R s m sargs below meth c (T.setVm vm₁) locs cells slots ∧ ∀ target, (∀ acts, Steps p.tables e below (doInvoke e ((T.setVm vm₁).setTop (F0 m pc ls rest)) acts mk As.toArray).1 target) → Steps p.tables e below (T.setTop (F0 m pc ls (As.reverse ++ rest))) target := by
    rcases hlk with hlk | ⟨host, hlk⟩
    · exact X.invokestatic hx hown hlk hn hmY hstatic hkP hinitP hy (g := F0 m pc ls (As.reverse ++ rest)) rfl (argsL := As) (rest := rest) hl rfl (by rw [hb]; exact hdg)
    · exact X.invokestaticNest hx hown hlk hn hmY hstatic hkP hinitP hy (g := F0 m pc ls (As.reverse ++ rest)) rfl (argsL := As) (rest := rest) hl rfl (by rw [hb]; exact hdg)
  obtain ⟨t, a1, b1⟩ := zgo hM hb X₁ hT hml hsize hdg hst hcode hn hws hini hfr hlo hrc hrs hc hs hP kr kt
  exact ⟨t, hstep₁ _ fun acts => by rw [doInvoke_state]; exact a1, b1⟩
theorem zcallV (hx : p.tables.exec = Jvm.exec) (hb : c.code = cc) (hown : s.vm.findClass own = some m.cls) (hM : zMet l y ws rm Pc Qc mc ms free) (hlk : zLk own ix y s sargs) (hinst : (Jvm.Cond.instanceMethod y).before sargs s = true) {C0 : String} (hsel : (Jvm.Cond.selects C0 y y).before sargs s = true) (hy : y.cls ≠ "java/lang/invoke/MethodHandle" ∧ y.cls ≠ "java/lang/invoke/VarHandle")
    {b : Nat} {cellB : Cell} (hcell : H[b]? = some cellB) (hobj : cellB.vm.isStatics = false) (hcls : s.vm.findClass C0 = some cellB.cls)
    {nL : Nat} (hml : c.maxLocals = nL) (hsize : ls.size = nL) (hdg : decode cc pc = .ok (.invokevirtual ix, 3)) (hlen : (parseMethodDescriptor y.desc).map (fun d => d.parameters.length) = some As.length)
    (hst : (rest.map fun v => v.category).sum ≤ 16) (hcode : zCode y maxL s sargs) (hws : ∀ w ∈ ws, ∀ (a' : Array Value) (U : State), s.WarmedH U.vm → w.before a' U = true) (hini : (Jvm.Cond.initialized y.cls).before sargs s = true)
    (hfr : rm.frames + 1 ≤ R.frames) (hlo : 16 + (maxL + 11) + rm.locals ≤ R.locals) (hrc : rm.cells = mc) (hrs : rm.slots = ms) (hc : cells + mc ≤ R.cells) (hs : slots + ms ≤ R.slots)
    (hP : ∀ U : State, U.heap = H → s.WarmedH U.vm → Pc (Value.ref b :: As).toArray U)
    (kr : ∀ (v : Option Value) (st t : State) (L : List Loc), st.heap = H → s.WarmedH st.vm → st.WarmedH t.vm → Qc (Value.ref b :: As).toArray st (.returned v) t → (∀ q ∈ L, free q.base) → W p l e R s m sargs below meth c t.heap (locs ++ L) (cells + mc) (slots + ms) Q (F0 m (pc + 3) ls (v.toList ++ rest)))
    (kt : ∀ (x : Nat) (st t : State) (L : List Loc), st.heap = H → s.WarmedH st.vm → st.WarmedH t.vm → Qc (Value.ref b :: As).toArray st (.threw x) t → (∀ q ∈ L, free q.base) → zWT p l e R s m sargs below meth c t.heap (locs ++ L) (cells + mc) (slots + ms) Q x (F0 m pc ls rest)) :
    W p l e R s m sargs below meth c H locs cells slots Q (F0 m pc ls (As.reverse ++ .ref b :: rest)) := by
  intro T hT X
  obtain ⟨mk, methY, cY, hn, hmY, hcY, hlY, hsig⟩ := id hcode.spec
  obtain ⟨mk', methM, hnamed, hmethM, hstM, habM⟩ := Cond.instanceMethod_spec hinst
  cases hn.symm.trans hnamed
  cases hmY.symm.trans hmethM
  obtain ⟨c2, r2, m2, q1, q2, q3, q4, kP, hkP, hkPi⟩ := Cond.selects_spec hsel
  cases hcls.symm.trans q1
  cases (State.methodFound?_of_named hn hy).symm.trans q2
  cases hn.symm.trans q3
  have hselP : selectMethod e.platform s.vm cellB.cls mk = .method mk := by rw [Launch.admits_selectMethod X.admits]; exact q4
  have hl : As.length = methY.sig.parameters.length := by rw [hsig] at hlen; exact (Option.some.inj hlen).symm
  obtain ⟨vm₁, X₁, hstep₁⟩ : ∃ vm₁, Stand p l e R s m sargs below meth c (T.setVm vm₁) locs cells slots ∧ ∀ target, (∀ acts, Steps p.tables e below (doInvoke e ((T.setVm vm₁).setTop (F0 m pc ls rest)) acts mk (Value.ref b :: As).toArray).1 target) → Steps p.tables e below (T.setTop (F0 m pc ls (As.reverse ++ .ref b :: rest))) target := by
    rcases hlk with hlk | ⟨host, hlk⟩
    · exact X.invokevirtual hx hown hlk hn hmY hstM hkP hkPi hy (a := b) (cell := cellB) (by rw [hT]; exact hcell) (fun z h => by rw [h] at hobj; cases hobj) hselP hmY habM hkP hkPi (g := F0 m pc ls (As.reverse ++ .ref b :: rest)) rfl (argsL := As) (rest := rest) hl rfl (by rw [hb]; exact hdg)
    · exact X.invokevirtualNest hx hown hlk hn hmY hstM hkP hkPi hy (a := b) (cell := cellB) (by rw [hT]; exact hcell) (fun z h => by rw [h] at hobj; cases hobj) hselP hmY habM hkP hkPi (g := F0 m pc ls (As.reverse ++ .ref b :: rest)) rfl (argsL := As) (rest := rest) hl rfl (by rw [hb]; exact hdg)
  obtain ⟨t, a1, b1⟩ := zgo hM hb X₁ hT hml hsize hdg hst hcode hn hws hini hfr hlo hrc hrs hc hs hP kr kt
  exact ⟨t, hstep₁ _ fun acts => by rw [doInvoke_state]; exact a1, b1⟩
end ZR
