/-! Enum.ordinal, called through a class that inherits it; the old world with it -/
def ordN : MethodName := ⟨"java/lang/Enum", "ordinal", "()I"⟩
def ordB : ByteArray := ⟨#[0x2a, 0xb4, 0x00, 0x07, 0xac]⟩
def ordWs : List Jvm.Cond := [.code ordN ordB 1 (some .int), .fieldLink "java/lang/Enum" 7 "java/lang/Enum" "ordinal" "I"]
def ordRm : Room := { frames := 1, cells := 0, slots := 0, locals := 20 }
set_option maxHeartbeats 1000000 in
theorem zordMet (l : Launch) (n0 a0 : Nat) (v : Int32) (free : Nat → Prop) : zMet l ordN ordWs ordRm (fun a U => a = [Value.ref a0].toArray ∧ va_OF "java/lang/Enum" "ordinal" "I" (.int v) a0 (fun q : Nat => n0 ≤ q) U U.heap) (fun _ st oc t => oc = .returned (some (.int v)) ∧ t.heap = st.heap) 0 0 free := by
  refine MetFree.of_bodyS (code := ordB) (maxLocals := 1) (ret := some .int) (by decide) ?_ ?_
  · intro args s m hp hn
    obtain ⟨meth, c, h1, h2, h3, h4, h5, h6, -⟩ := Cond.code_spec hn (atoms_spec (ws := ordWs) hp _ List.mem_cons_self)
    exact ⟨meth, c, h1, h2, h3, h4, h5, h6⟩
  · intro p e s m args below meth c s₁ B hml hP _
    have hh0 : s₁.heap = s.heap := by rw [B.state]; rfl
    obtain ⟨rfl, hO⟩ := hP
    have hts : ∀ w ∈ ordWs, w.before [Value.ref a0].toArray s = true := atoms_spec (ws := ordWs) B.pre
    have X₀ := Stand.of_body B
    have hd : ∀ q ∈ c.exceptionTable.toList, ∀ pc, covers q pc = false := by
      intro q hq pc
      obtain ⟨meth', c', h1, h2, -, -, -, -, h7, -⟩ := Cond.code_spec B.named (hts _ List.mem_cons_self)
      cases h1.symm.trans B.method
      cases h2.symm.trans X₀.code
      have := h7
      rw [Array.isEmpty_iff] at this
      rw [this] at hq
      cases hq
    have hl := lv_entry ([.ref a0] : List Value) (n := 1) (Nat.le_refl _)
    have K2 : W p l e (headSpec ordWs ordRm).room s m [Value.ref a0].toArray below meth c s.heap [] 0 0 (zMQ below (fun _ st oc t => oc = .returned (some (.int v)) ∧ t.heap = st.heap) [Value.ref a0].toArray s 0 0 free) (entryFrame m [Value.ref a0].toArray 1) := by
      rw [lg_entry_eq]
      refine lv_aload_n B.exec B.bytes (k := 0) (i := 0) (x := a0) rfl rfl (lv_at hl 0 rfl) ?_
      refine vk_getf B.exec B.bytes hO va_S.rf (findClass_of_methodNamed B.named) (hts (.fieldLink "java/lang/Enum" 7 "java/lang/Enum" "ordinal" "I") (by simp [ordWs])) (fun x h => h) rfl ?_
      exact W.mono (fun t ht => zMQ.of ht) (W.iret B.exec B.bytes B.returns (fun t ht hW => ⟨rfl, ht⟩) (fun _ h => by cases h) rfl B.notSynchronized)
    obtain ⟨t, a1, o, b1, b2, b3, b4⟩ := K2 s₁ hh0 X₀
    exact ⟨t, o, a1, b1, b2, b3, b4⟩
section ZU
variable {p : Program} {l : Launch} {e : Env} {R : Room} {s : State} {m : MethodId} {sargs : Array Value} {below : List Frame} {meth : Method} {c : Code} {H : Heap} {locs : List Loc} {cells slots : Nat} {Q : State → Prop}
variable {x y : MethodName} {ws : List Jvm.Cond} {rm : Room} {Pc : Array Value → State → Prop} {Qc : Array Value → State → Outcome → State → Prop} {mc ms maxL pc ix : Nat} {free : Addr → Prop} {cc : ByteArray} {own owner : String} {ls : Array Slot} {As rest : List Value} {b : Nat}
theorem zcallU (hx : p.tables.exec = Jvm.exec) (hb : c.code = cc) (hown : s.vm.findClass own = some m.cls) (hM : zMet l y ws rm Pc Qc mc ms free) (hlk : (Jvm.Cond.methodLink own ix x).before sargs s = true) (hsame : (Jvm.Cond.sameMethod x.cls owner x.name x.desc).before sargs s = true) (hd0 : va_Decl s ⟨owner, x.name, x.desc⟩) (howner : owner ≠ "java/lang/invoke/MethodHandle" ∧ owner ≠ "java/lang/invoke/VarHandle")
    (hinst : (Jvm.Cond.instanceMethod y).before sargs s = true) {C0 : String} (hsel : (Jvm.Cond.selects C0 x y).before sargs s = true)
    {cellB : Cell} (hcell : H[b]? = some cellB) (hobj : cellB.vm.isStatics = false) (hcls : s.vm.findClass C0 = some cellB.cls)
    {nL : Nat} (hml : c.maxLocals = nL) (hsize : ls.size = nL) (hdg : decode cc pc = .ok (.invokevirtual ix, 3)) (hlen : (parseMethodDescriptor x.desc).map (fun d => d.parameters.length) = some As.length)
    (hst : (rest.map fun v => v.category).sum ≤ 16) (hcode : zCode y maxL s sargs) (hws : ∀ w ∈ ws, ∀ (a' : Array Value) (U : State), s.WarmedH U.vm → w.before a' U = true) (hini : (Jvm.Cond.initialized y.cls).before sargs s = true)
    (hfr : rm.frames + 1 ≤ R.frames) (hlo : 16 + (maxL + 11) + rm.locals ≤ R.locals) (hrc : rm.cells = mc) (hrs : rm.slots = ms) (hc : cells + mc ≤ R.cells) (hs : slots + ms ≤ R.slots)
    (hP : ∀ U : State, U.heap = H → s.WarmedH U.vm → Pc (Value.ref b :: As).toArray U)
    (kr : ∀ (v : Option Value) (st t : State) (L : List Loc), st.heap = H → s.WarmedH st.vm → st.WarmedH t.vm → Qc (Value.ref b :: As).toArray st (.returned v) t → (∀ q ∈ L, free q.base) → W p l e R s m sargs below meth c t.heap (locs ++ L) (cells + mc) (slots + ms) Q (F0 m (pc + 3) ls (v.toList ++ rest)))
    (kt : ∀ (z : Nat) (st t : State) (L : List Loc), st.heap = H → s.WarmedH st.vm → st.WarmedH t.vm → Qc (Value.ref b :: As).toArray st (.threw z) t → (∀ q ∈ L, free q.base) → zWT p l e R s m sargs below meth c t.heap (locs ++ L) (cells + mc) (slots + ms) Q z (F0 m pc ls rest)) :
    W p l e R s m sargs below meth c H locs cells slots Q (F0 m pc ls (As.reverse ++ .ref b :: rest)) := by
  intro T hT X
  obtain ⟨r0, r, hn, hrm, hstR, hsigR⟩ := hd0
  obtain ⟨cn, ck, r1, hcn, hck, hni, hf, hn1⟩ := Cond.sameMethod_found hsame
  cases hn.symm.trans hn1
  obtain ⟨mk, methM, hnamed, hmethM, -, habM⟩ := Cond.instanceMethod_spec hinst
  obtain ⟨c2, r2, m2, q1, q2, q3, q4, kP, hkP, hkPi⟩ := Cond.selects_spec hsel
  cases hcls.symm.trans q1
  cases hf.symm.trans q2
  cases hnamed.symm.trans q3
  have hselP : selectMethod e.platform s.vm cellB.cls r0 = .method mk := by rw [Launch.admits_selectMethod X.admits]; exact q4
  have hl : As.length = r.sig.parameters.length := by rw [hsigR] at hlen; exact (Option.some.inj hlen).symm
  obtain ⟨vm₁, X₁, hstep₁⟩ := X.invokevirtualUp hx hown hlk hsame howner hn hrm hstR (a := b) (cell := cellB) (by rw [hT]; exact hcell)
    (fun z h => by rw [h] at hobj; cases hobj) hselP hmethM habM hkP hkPi (g := F0 m pc ls (As.reverse ++ .ref b :: rest)) rfl (argsL := As) (rest := rest) hl rfl (by rw [hb]; exact hdg)
  obtain ⟨t, a1, b1⟩ := zgo hM hb X₁ hT hml hsize hdg hst hcode hnamed hws hini hfr hlo hrc hrs hc hs hP kr kt
  exact ⟨t, hstep₁ _ fun acts => by rw [doInvoke_state]; exact a1, b1⟩
end ZU
