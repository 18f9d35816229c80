/-! every abstract result is a contract -/
section ZT
variable {l : Launch} {D : va_G} {tys : List (ClassId × FieldType)} {sa : Nat → Nat} {xn : Nat → String} {n0 : Nat} {zst : State → Prop} {T : zTb} {Ts Ns : List Jvm.Cond} {zcw : zM → Jvm.Cond}
theorem zCw.spec {M : zM} {s : State} {args : Array Value} {m : MethodId} (h : zCw zcw M) (hb : (zcw M).before args s = true) (hn : s.methodNamed? M.2.1 = some m) : ∃ meth c, s.vm.method? m = some meth ∧ meth.code = some c ∧ c.code = M.2.2.1 ∧ c.maxLocals = M.2.2.2.1 ∧ meth.sig.returnType = M.2.2.2.2.1 ∧ meth.locks = false ∧ (M.2.2.2.2.2.2 = [] → c.exceptionTable.isEmpty = true) := by
  rcases h with ⟨q, -⟩ | ⟨hh, q, q2⟩
  · rw [q] at hb
    obtain ⟨meth, c, h1, h2, h3, h4, h5, h6, h7, -⟩ := Cond.code_spec hn hb
    exact ⟨meth, c, h1, h2, h3, h4, h5, h6, fun _ => h7⟩
  · rw [q] at hb
    obtain ⟨m9, meth, c, hn9, h1, h2, h3, h4, -, h5, h6, -⟩ := Cond.codeWith_spec hb
    cases hn.symm.trans hn9
    exact ⟨meth, c, h1, h2, h3, h4, h5, h6, fun h => absurd h q2⟩
set_option maxHeartbeats 1000000 in
theorem zsound (hT : zTabs T Ts Ns zcw) (hty : zTys tys) (hstay : zStay n0 zst) (hext : zExtOK l T Ts Ns sa n0 zst) (hthr : zThrOK l T Ts Ns xn n0 zst) (hhan : zHanOK l T Ts Ns zcw xn zst) (hsk : zSkOK T sa n0 zst) (hNs : ∀ U : State, zst U → ∀ w ∈ Ns, ∀ a : Array Value, w.before a U = true) :
    ∀ (d mi : Nat) (as : List Value) (h : zH) (r : zRs), zX T d mi as h r → zCon l T Ts zcw D tys sa xn n0 zst d mi as h r := by
  intro d
  induction d with
  | zero => intro mi as h r hX; exact hX.elim
  | succ d ih =>
    intro mi as h r hX M hM ad cas hF
    obtain ⟨M1, n, hM1, hcat, hrun⟩ := hX
    cases hM.symm.trans hM1
    obtain ⟨hC, hplain, hMH, hcwT, hiniT, hmaxL, hinit, hcw⟩ := hT.2.2.2.1 _ _ hM
    refine MetFree.of_bodyS (code := M.2.2.1) (maxLocals := M.2.2.2.1) (ret := M.2.2.2.2.1) hplain ?_ ?_
    · intro args s m hp hn
      obtain ⟨meth, c, h1, h2, h3, h4, h5, h6, -⟩ := hcw.spec (atoms_spec (ws := zcw M :: Ts) hp _ List.mem_cons_self) hn
      exact ⟨meth, c, h1, h2, h3, h4, h5, h6⟩
    · intro p e s m args below meth c s₁ B hml hP _
      have hh0 : s₁.heap = s.heap := by rw [B.state]; rfl
      obtain ⟨rfl, ws, w1, w2, w3, w4, w5, w6⟩ := hP
      have hts0 : ∀ w ∈ zcw M :: Ts, w.before cas.toArray s = true := atoms_spec (ws := zcw M :: Ts) B.pre
      have hts : ∀ w ∈ Ts ++ Ns, w.before cas.toArray s = true := by
        intro w hw
        rcases List.mem_append.mp hw with q | q
        · exact hts0 w (List.mem_cons_of_mem _ q)
        · exact hNs s w5 w q _
      have hcwb := hts0 _ List.mem_cons_self
      have X₀ := Stand.of_body B
      have hnh : M.2.2.2.2.2.2 = [] → ∀ q ∈ c.exceptionTable.toList, ∀ pc, covers q pc = false := by
        intro hz q hq pc
        obtain ⟨meth', c', h1, h2, -, -, -, -, h7⟩ := hcw.spec hcwb B.named
        cases h1.symm.trans B.method
        cases h2.symm.trans X₀.code
        have := h7 hz
        rw [Array.isEmpty_iff] at this
        rw [this] at hq
        cases hq
      have hlen : (lg_sl cas).length ≤ M.2.2.2.1 := by
        rw [zsl_len]
        have := hF.cat
        unfold zcat at this ⊢
        rw [this]
        exact hcat
      have hl := lv_entry cas (n := M.2.2.2.1) hlen
      have K := zbody (p := p) (l := l) (e := e) (R := zrm (d + 1) r.2.2.1 r.2.2.2) (s := s) (m := m) (sargs := cas.toArray) (below := below) (meth := meth) (c := c) (D := D) (tys := tys) (sa := sa) (xn := xn) (n0 := n0) (zst := zst) (T := T) (Ts := Ts) (Ns := Ns) (zcw := zcw) (M := M) (C := M.2.1.cls) (d := d) (mc := r.2.2.1) (ms := r.2.2.2) (mi0 := mi) (CC := zX T d)
        B.exec B.bytes hml B.returns B.notSynchronized (fun q => (name_of_methodNamed B.named B.method).1.trans (hinit q)) hC (findClass_of_methodNamed B.named) (fun _ => ⟨hM, B.named, hcwb, B.method, X₀.code⟩) hnh hT hty hstay hext hthr hhan hsk hts w5 w6 w4
        (zrm_1 _ _ _) (zrm_2 _ _ _) (zrm_3 _ _ _) (zrm_4 _ _ _) (Nat.le_refl _) (Nat.le_refl _) ih ad
        n _ r hrun [] 0 0 s.heap [] ws _ _ [] (by rw [List.append_nil]; exact w1) w2 w3 va_S.rf (by rw [List.append_nil]; exact zlv_args as cas 0 hF) hl True.intro (Nat.zero_add _) (Nat.zero_add _)
      have K2 : W p l e (headSpec (zcw M :: Ts) (zrm (d + 1) r.2.2.1 r.2.2.2)).room s m cas.toArray below meth c s.heap [] 0 0 (zMQ below (zQ D (zTcl T) tys sa xn n0 zst ad r.1 r.2.1) cas.toArray s r.2.2.1 r.2.2.2 (fun q : Nat => n0 ≤ q)) (entryFrame m cas.toArray M.2.2.2.1) := by
        rw [lg_entry_eq]
        exact K
      obtain ⟨t, a1, o, b1, b2, b3, b4⟩ := K2 s₁ hh0 X₀
      exact ⟨t, o, a1, b1, b2, b3, b4⟩
end ZT
