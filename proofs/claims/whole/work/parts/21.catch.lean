/-! a handler's row: the search through the table, its catch types linked now or before -/
theorem zgoOne {e : Env} {f : JFrame} {a : Nat} {y : ExceptionTableEntry} {ys : List ExceptionTableEntry} {S : State} {ct : ClassId} {cell : Cell} {Q : Handler → Pre} {E : CtlPost} {d : Bool} {acts : List Action} (hy : covers y f.pc = true) (h0 : y.catchType ≠ 0)
    (hl : S.vm.ClassLinks e.platform f.method.cls y.catchType ct) (hcell : S.heap[a]? = some cell) (hobj : ∀ k, cell.vm ≠ .statics k) (hk : ∃ k, S.vm.classes[cell.cls]? = some k) (hc : ∃ k, S.vm.classes[ct]? = some k) :
    wp (findHandler.go f a (y :: ys)) Q E e d acts S ↔ if S.vm.assignable cell.cls ct = true then Q (.found y.handlerPc) d acts (S.setVm (S.vm.noted f.method.cls y.catchType (.cls ct))) else wp (findHandler.go f a ys) Q E e d acts (S.setVm (S.vm.noted f.method.cls y.catchType (.cls ct))) := by
  have hy' : (decide (y.startPc ≤ f.pc) && decide (f.pc < y.endPc)) = true := hy
  obtain ⟨ha, ht⟩ := (resolveClass_links e.toSetting hl).op (op := VmOp.resolveClass f.method.cls y.catchType) rfl
  have hal : S.vm.Alike (S.vm.noted f.method.cls y.catchType (.cls ct)) := (Vm.Alike.refl S.vm).noted _ _ _
  obtain ⟨k1, g1, -⟩ := hal.2.2 _ _ hk.choose_spec
  obtain ⟨k2, g2, -⟩ := hal.2.2 _ _ hc.choose_spec
  have has : (S.vm.noted f.method.cls y.catchType (.cls ct)).assignable cell.cls ct = S.vm.assignable cell.cls ct := hal.assignable ..
  cases hfit : S.vm.assignable cell.cls ct <;> simp [findHandler.go, hy', h0, ha, ht, hcell, hobj, g1, g2, has, hfit, VmOp.dirties, VmOp.acts]
/-- the rows' classes: 'tg'; the first covering row whose class takes the object -/
theorem zsearch {e : Env} {s0 : State} {f : JFrame} {a : Nat} {cell : Cell} (tg : ExceptionTableEntry → ClassId) (hobj : ∀ k, cell.vm ≠ .statics k) (hk0 : ∃ k, s0.vm.classes[cell.cls]? = some k) :
    ∀ (es : List ExceptionTableEntry) (S : State), s0.WarmedH S.vm → S.heap[a]? = some cell → (∀ y ∈ es, covers y f.pc = true → y.catchType ≠ 0 ∧ s0.vm.ClassLinks e.platform f.method.cls y.catchType (tg y)) →
      ∀ x0, es.find? (fun y => covers y f.pc && s0.vm.assignable cell.cls (tg y)) = some x0 → ∃ vm', s0.WarmedH vm' ∧ ∀ (Q : Handler → Pre) (E : CtlPost) (d : Bool) (acts : List Action), wp (findHandler.go f a es) Q E e d acts S ↔ Q (.found x0.handlerPc) d acts (S.setVm vm') := by
  intro es
  induction es with
  | nil => intro S hW hcell hes x0 hf; cases hf
  | cons y ys ih =>
    intro S hW hcell hes x0 hf
    have hes' : ∀ z ∈ ys, covers z f.pc = true → z.catchType ≠ 0 ∧ s0.vm.ClassLinks e.platform f.method.cls z.catchType (tg z) := fun z hz => hes z (List.mem_cons_of_mem _ hz)
    cases hcov : covers y f.pc with
    | false =>
      rw [List.find?_cons_of_neg (by simp [hcov])] at hf
      obtain ⟨vm', h1, h2⟩ := ih S hW hcell hes' x0 hf
      exact ⟨vm', h1, fun Q E d acts => (W.findHandler_go_skip hcov).trans (h2 Q E d acts)⟩
    | true =>
      obtain ⟨h0, hl⟩ := hes y List.mem_cons_self hcov
      obtain ⟨dk, _, _, kt, hd, _, _, _, _, hkt, _, hopen⟩ := hl.here
      obtain ⟨k1, g1, -⟩ := hW.alike.2.2 _ _ hk0.choose_spec
      obtain ⟨k2, g2, -⟩ := hW.alike.2.2 _ _ hkt
      have hone := fun (Q : Handler → Pre) (E : CtlPost) (d : Bool) (acts : List Action) => zgoOne (ys := ys) (Q := Q) (E := E) (d := d) (acts := acts) hcov h0 (hW.classLinks hl) hcell hobj ⟨k1, g1⟩ ⟨k2, g2⟩
      have has : S.vm.assignable cell.cls (tg y) = s0.vm.assignable cell.cls (tg y) := hW.alike.assignable ..
      have hW2 : s0.WarmedH (S.vm.noted f.method.cls y.catchType (.cls (tg y))) := hW.noted hd hopen (State.rightAt_cls hl)
      cases hfit : s0.vm.assignable cell.cls (tg y) with
      | true =>
        rw [List.find?_cons_of_pos (by simp [hcov, hfit])] at hf
        cases hf
        exact ⟨_, hW2, fun Q E d acts => by rw [hone, has, hfit]; simp⟩
      | false =>
        rw [List.find?_cons_of_neg (by simp [hcov, hfit])] at hf
        obtain ⟨vm', h1, h2⟩ := ih (S.setVm (S.vm.noted f.method.cls y.catchType (.cls (tg y)))) hW2 hcell hes' x0 hf
        exact ⟨vm', h1, fun Q E d acts => by rw [hone, has, hfit]; simp only [Bool.false_eq_true, if_false]; exact h2 Q E d acts⟩
/-- into the handler -/
theorem zcaught {p : Program} {l : Launch} {e : Env} {R : Room} {s : State} {m : MethodId} {sargs : Array Value} {below : List Frame} {meth : Method} {c : Code} {H : Heap} {locs : List Loc} {cells slots : Nat} {Q : State → Prop} {b pc : Nat} {ls : Array Slot} {rest : List Value} {cell : Cell} (tg : ExceptionTableEntry → ClassId)
    (hcell : H[b]? = some cell) (hobj : cell.vm.isStatics = false) (hk0 : ∃ k, s.vm.classes[cell.cls]? = some k) (hes : ∀ e : Env, l.admits e → ∀ y ∈ c.exceptionTable.toList, covers y pc = true → y.catchType ≠ 0 ∧ s.vm.ClassLinks e.platform m.cls y.catchType (tg y))
    {x0 : ExceptionTableEntry} (hf : c.exceptionTable.toList.find? (fun y => covers y pc && s.vm.assignable cell.cls (tg y)) = some x0)
    (k : W p l e R s m sargs below meth c H locs cells slots Q (F0 m x0.handlerPc ls [.ref b])) : zWT p l e R s m sargs below meth c H locs cells slots Q b (F0 m pc ls rest) := by
  intro T hT X
  subst hT
  obtain ⟨vm', hW', hq⟩ := zsearch (e := e) (s0 := s) (f := F0 m pc ls rest) (a := b) tg (VmData.ne_statics_of hobj) hk0 c.exceptionTable.toList ((T.setTop (F0 m pc ls rest)).pushFrame (.throwing b)) X.warmed hcell (hes e X.admits) x0 hf
  obtain ⟨t, a1, b1⟩ := k (T.setVm vm') rfl (X.noted hW')
  refine ⟨t, ?_, b1⟩
  obtain ⟨hgo, hw⟩ := X.here.throwing (g := F0 m pc ls rest) b
  refine Steps.head hgo hw ?_
  have hstep : (stepThrowing e ((T.setTop (F0 m pc ls rest)).pushFrame (.throwing b)) b (.java (F0 m pc ls rest) :: T.frames.tail)).Is ((((T.setTop (F0 m pc ls rest)).pushFrame (.throwing b)).setVm vm').setFrames (.java { F0 m pc ls rest with pc := x0.handlerPc, stack := [.ref b] } :: T.frames.tail)) [] := by
    have hm' : ((T.setTop (F0 m pc ls rest)).pushFrame (.throwing b)).vm.method? (F0 m pc ls rest).method = some meth := X.method'
    have hqq : ∀ (Q : Handler → Pre) (E : CtlPost) (d : Bool) (acts : List Action), wp (findHandler (F0 m pc ls rest) b) Q E e d acts ((T.setTop (F0 m pc ls rest)).pushFrame (.throwing b)) ↔ Q (.found x0.handlerPc) d acts (((T.setTop (F0 m pc ls rest)).pushFrame (.throwing b)).setVm vm') := fun Q E d acts => (W.findHandler_eq hm' X.code).trans (hq Q E d acts)
    simp only [stepThrowing, searchFrame, vmDo]
    generalize hr : Sem.go _ e false [] _ = res
    obtain ⟨as, rfl, ha⟩ := Sem.eq_ok_of hr (a := Handler.found x0.handlerPc) (s' := ((T.setTop (F0 m pc ls rest)).pushFrame (.throwing b)).setVm vm') (acts' := []) (by simp [hqq])
    exact ⟨rfl, ha⟩
  rw [stepThread_throwing (frames_entered X.here.top _), hstep.1]
  obtain ⟨g0, hg⟩ := Option.isSome_iff_exists.mp X.here.top
  obtain ⟨r, hr⟩ := State.topJava?_eq_some.mp hg
  have hr' : (T.setVm vm').frames = .java g0 :: r := hr
  have e1 : ((((T.setTop (F0 m pc ls rest)).pushFrame (.throwing b)).setVm vm').setFrames (.java { F0 m pc ls rest with pc := x0.handlerPc, stack := [.ref b] } :: T.frames.tail)) = (T.setVm vm').setTop (F0 m x0.handlerPc ls [.ref b]) := by
    rw [State.setTop_of_frames _ hr', State.pushFrame, State.setTop_of_frames _ hr, hr]
    show (((T.setFrames _).setFrames _).setVm vm').setFrames _ = _
    rw [State.setFrames_setFrames]
    rw [show (T.setFrames (.throwing b :: (T.setFrames (.java (F0 m pc ls rest) :: r)).frames)).setVm vm' = (T.setVm vm').setFrames (.throwing b :: (T.setFrames (.java (F0 m pc ls rest) :: r)).frames) from rfl, State.setFrames_setFrames]
    rfl
  rw [e1]
  exact a1
