/-! constructors' calls; a throw -/
section ZI
variable {p : Program} {l : Launch} {e : Env} {R : Room} {s : State} {m : MethodId} {sargs : Array Value} {below : List Frame} {meth : Method} {c : Code} {H : Heap} {locs : List Loc} {cells slots : Nat} {Q : State → Prop}
variable {y : MethodName} {ws : List Jvm.Cond} {rm : Room} {Pc : Array Value → State → Prop} {Qc : Array Value → State → Outcome → State → Prop} {mc ms maxL pc ix : Nat} {free : Addr → Prop} {cc : ByteArray} {own : String} {ls : Array Slot} {As rest : List Value} {b : Nat}
theorem zcallI (hx : p.tables.exec = Jvm.exec) (hb : c.code = cc) (hown : s.vm.findClass own = some m.cls) (hM : zMet l y ws rm Pc Qc mc ms free) (hlk : zLk own ix y s sargs) (hy1 : y.name = "<init>") (hinst : (Jvm.Cond.instanceMethod y).before sargs s = true) (hy : y.cls ≠ "java/lang/invoke/MethodHandle" ∧ y.cls ≠ "java/lang/invoke/VarHandle")
    {nL : Nat} (hml : c.maxLocals = nL) (hsize : ls.size = nL) (hdg : decode cc pc = .ok (.invokespecial ix, 3)) (hlen : (parseMethodDescriptor y.desc).map (fun d => d.parameters.length) = some As.length)
    (hst : (rest.map fun v => v.category).sum ≤ 16) {bytes : ByteArray} (hcode : (Jvm.Cond.code y bytes maxL none).before sargs s = true) (hws : ∀ w ∈ ws, ∀ (a' : Array Value) (U : State), s.WarmedH U.vm → w.before a' U = true) (hini : (Jvm.Cond.initialized y.cls).before sargs s = true)
    (hfr : rm.frames + 1 ≤ R.frames) (hlo : 16 + (maxL + 11) + rm.locals ≤ R.locals) (hrc : rm.cells = mc) (hrs : rm.slots = ms) (hc : cells + mc ≤ R.cells) (hs : slots + ms ≤ R.slots)
    (hP : ∀ U : State, U.heap = H → s.WarmedH U.vm → Pc (Value.ref b :: As).toArray U)
    (kr : ∀ (v : Option Value) (st t : State) (L : List Loc), st.heap = H → s.WarmedH st.vm → st.WarmedH t.vm → Qc (Value.ref b :: As).toArray st (.returned v) t → (∀ q ∈ L, free q.base) → W p l e R s m sargs below meth c t.heap (locs ++ L) (cells + mc) (slots + ms) Q (F0 m (pc + 3) ls (v.toList ++ rest)))
    (kt : ∀ (x : Nat) (st t : State) (L : List Loc), st.heap = H → s.WarmedH st.vm → st.WarmedH t.vm → Qc (Value.ref b :: As).toArray st (.threw x) t → (∀ q ∈ L, free q.base) → zWT p l e R s m sargs below meth c t.heap (locs ++ L) (cells + mc) (slots + ms) Q x (F0 m pc ls rest)) :
    W p l e R s m sargs below meth c H locs cells slots Q (F0 m pc ls (As.reverse ++ .ref b :: rest)) := by
  intro T hT X
  have hco : zCode y maxL s sargs := ⟨bytes, none, Or.inl hcode⟩
  obtain ⟨mk0, methY, cY, hn, hmY, hcY, hlY, hsig⟩ := id hco.spec
  have hl : ∀ sig, parseMethodDescriptor y.desc = some sig → As.length = sig.parameters.length := fun sig h => by rw [h] at hlen; exact (Option.some.inj hlen).symm
  have hpl : e.platform.magicAccessors = ({} : Platform).magicAccessors := by rw [X.admits.platform]
  obtain ⟨mk, vm₁, hnk, X₁, hstep₁⟩ : ∃ mk vm₁, s.methodNamed? y = some mk ∧ Stand p l e R s m sargs below meth c (T.setVm vm₁) locs cells slots ∧ ∀ target, (∀ acts, Steps p.tables e below (doInvoke e ((T.setVm vm₁).setTop (F0 m pc ls rest)) acts mk (Value.ref b :: As).toArray).1 target) → Steps p.tables e below (T.setTop (F0 m pc ls (As.reverse ++ .ref b :: rest))) target := by
    rcases hlk with hlk | ⟨host, hlk⟩
    · obtain ⟨mk, methM, cM, kP, vm₁, hnamed, -, -, -, -, -, -, -, hW₁, hstep₁⟩ := Steps.initColdArgs (e := e) X.here hx X.warmed hpl hown hy1 hy hlk hinst hcode (f := F0 m pc ls (As.reverse ++ .ref b :: rest)) rfl hl rfl (by rw [hb]; exact hdg)
      exact ⟨mk, vm₁, hnamed, X.noted hW₁, hstep₁⟩
    · obtain ⟨mk, methM, cM, kP, vm₁, hnamed, -, -, -, -, -, -, -, hW₁, hstep₁⟩ := Steps.initColdArgsNest (e := e) X.here hx X.warmed hpl hown hy1 hy hlk hinst hcode (f := F0 m pc ls (As.reverse ++ .ref b :: rest)) rfl hl rfl (by rw [hb]; exact hdg)
      exact ⟨mk, vm₁, hnamed, X.noted hW₁, hstep₁⟩
  obtain ⟨t, a1, b1⟩ := zgo hM hb X₁ hT hml hsize hdg hst hco hnk hws hini hfr hlo hrc hrs hc hs hP kr kt
  exact ⟨t, hstep₁ _ fun acts => by rw [doInvoke_state]; exact a1, b1⟩
theorem zathrow (hx : p.tables.exec = Jvm.exec) (hb : c.code = cc) (hdg : decode cc pc = .ok (.athrow, 1)) (k : zWT p l e R s m sargs below meth c H locs cells slots Q b (F0 m pc ls rest)) :
    W p l e R s m sargs below meth c H locs cells slots Q (F0 m pc ls (.ref b :: rest)) := by
  intro T hT X
  obtain ⟨t, a, b⟩ := k T hT X
  refine ⟨t, ?_, b⟩
  jvm_step X.here [hx, hb, hdg, athrow.wp_sem]
  exact a
end ZI
