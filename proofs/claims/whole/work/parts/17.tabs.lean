/-! the tables bear the words -/
abbrev qExt : Type := Nat → Instr → List Value → Option (List Value)
def qT (x : qExt) (sk : Nat → Option Nat) : zTb := (fun k => qcn[k]?, qcl, qty, qfind (qfl ++ qfn), qfind qnl, qfind qkl, qfind qml, qfind qxl, fun mi => qms[mi]?, sk, x)
def qckC : Bool := (List.range qcl.length).all fun ci => match qcl[ci]? with
  | some q => (List.range q.2.2).all (fun k => decide (parseFieldDescriptor (q.2.1 k).2.2.1 = some (qty ci k))) && (List.range q.2.2).all (fun a => (List.range q.2.2).all (fun b => a == b || !((q.2.1 a).2.1 == (q.2.1 b).2.1)))
  | none => false
set_option maxRecDepth 100000 in
set_option maxHeartbeats 4000000 in
theorem qckC_ok : qckC = true := by decide +kernel
def qckF (e : Nat × Nat × Nat × Nat) : Bool := match qcl[e.2.2.1]? with
  | some q => decide (e.2.2.2 < q.2.2) && (!((q.2.1 e.2.2.2).2.2.2) || (q.2.1 e.2.2.2).1 == qown e.1)
  | none => false
def qckN (e : Nat × Nat × Nat × Nat) : Bool := match qcl[e.2.2.1]? with
  | some q => decide (e.2.2.2 < q.2.2) && !(e.2.2.1 == e.1)
  | none => false
set_option maxRecDepth 100000 in
theorem qckF_ok : qfl.all qckF = true := by decide +kernel
set_option maxRecDepth 100000 in
theorem qckN_ok : qfn.all qckN = true := by decide +kernel
def qckK (e : Nat × Nat × Nat) : Bool := (qcl[e.2.2]?).isSome
theorem qckK_ok : qnl.all qckK = true := by decide +kernel
def qckV (e : Nat × Nat × Value) : Bool := match e.2.2 with
  | .int _ => true
  | .long _ => true
  | .double _ => true
  | _ => false
theorem qckV_ok : qkl.all qckV = true := by decide +kernel
def qckM (M : zM) : Bool := decide (qcn[M.1]? = some M.2.1.cls) && plainName M.2.1.cls && !(M.2.1.cls == "java/lang/invoke/MethodHandle") && !(M.2.1.cls == "java/lang/invoke/VarHandle") && decide (M.2.2.2.1 ≤ 60) && (!M.2.2.2.2.2.1 || M.2.1.name == "<init>")
set_option maxRecDepth 100000 in
set_option maxHeartbeats 4000000 in
theorem qckM_ok : qms.all qckM = true := by decide +kernel
def qckL (e : Nat × Nat × Nat × Nat × Nat) : Bool := match e with
  | (_, _, mi, kind, n) => kind == 3 || (match qms[mi]? with
    | some M => decide ((parseMethodDescriptor M.2.1.desc).map (fun d => d.parameters.length) = some n) && (!(kind == 1) || (match qcl[M.1]? with | some q => q.1 == M.2.1.cls | none => true)) && (!(kind == 2) || (M.2.1.name == "<init>" && M.2.2.2.2.1.isNone && M.2.2.2.2.2.2.isEmpty))
    | none => false)
set_option maxRecDepth 100000 in
set_option maxHeartbeats 4000000 in
theorem qckL_ok : qml.all qckL = true := by decide +kernel
theorem qTs_M {w : Jvm.Cond} (h : w ∈ qms.flatMap qwM) : w ∈ qTs := List.mem_append_left _ h
theorem qTs_L {w : Jvm.Cond} (h : w ∈ qml.flatMap qwL) : w ∈ qTs := List.mem_append_right _ (List.mem_append_left _ h)
theorem qTs_F {w : Jvm.Cond} (h : w ∈ qfl.flatMap qwF) : w ∈ qTs := List.mem_append_right _ (List.mem_append_right _ (List.mem_append_left _ h))
theorem qTs_N {w : Jvm.Cond} (h : w ∈ qnl.flatMap qwN) : w ∈ qTs := List.mem_append_right _ (List.mem_append_right _ (List.mem_append_right _ (List.mem_append_left _ h)))
theorem qTs_K {w : Jvm.Cond} (h : w ∈ qkl.flatMap qwK) : w ∈ qTs := List.mem_append_right _ (List.mem_append_right _ (List.mem_append_right _ (List.mem_append_right _ (List.mem_append_left _ h))))
theorem qTs_C {w : Jvm.Cond} (h : w ∈ qcl.flatMap (fun q => u_ws q.1 q.2.1 q.2.2)) : w ∈ qTs := List.mem_append_right _ (List.mem_append_right _ (List.mem_append_right _ (List.mem_append_right _ (List.mem_append_right _ (List.mem_append_left _ h)))))
theorem qTs_A {w : Jvm.Cond} (h : w ∈ ([.arrayClass .int, .arrayClass .boolean, .arrayClass .long, .arrayClass .double] : List Jvm.Cond)) : w ∈ qTs := List.mem_append_right _ (List.mem_append_right _ (List.mem_append_right _ (List.mem_append_right _ (List.mem_append_right _ (List.mem_append_right _ h)))))
theorem qown_eq {k : Nat} {C : String} (h : qcn[k]? = some C) : qown k = C := by unfold qown; rw [List.getD_eq_getElem?_getD, h]; rfl
theorem qmet_eq {mi : Nat} {M : zM} (h : qms[mi]? = some M) : qmet mi = M.2.1 := by unfold qmet; rw [h]; rfl
theorem qfw_eq {ci : Nat} {q : vw_C} (h : qcl[ci]? = some q) (j : Nat) : qfw ci j = q.2.1 j := by unfold qfw; rw [h]
theorem qtabs (x : qExt) (sk : Nat → Option Nat) (Y : List Jvm.Cond) : zTabs (qT x sk) qTs (qNs ++ Y) qcw := by
  refine ⟨?_, ?_, ?_, ?_, ?_, ?_⟩
  · intro ci q hq
    have hq : qcl[ci]? = some q := hq
    have hlt : ci < qcl.length := (List.getElem?_eq_some_iff.mp hq).1
    have h := List.all_eq_true.mp qckC_ok ci (List.mem_range.mpr hlt)
    rw [hq] at h
    simp only [Bool.and_eq_true, List.all_eq_true, List.mem_range, decide_eq_true_eq, Bool.or_eq_true, beq_iff_eq, Bool.not_eq_true', beq_eq_false_iff_ne] at h
    refine ⟨fun w hw => qTs_C (List.mem_flatMap.mpr ⟨q, List.mem_of_getElem? hq, hw⟩), fun k hk => h.1 k hk, fun a ha b hb hab => ?_⟩
    rcases h.2 a ha b hb with e | e
    · exact absurd e hab
    · exact e
  · intro k C hC
    have hC : qcn[k]? = some C := hC
    have ho := qown_eq hC
    refine ⟨?_, ?_, ?_⟩
    · intro ix ci kf h
      have h := qfind_mem (show qfind (qfl ++ qfn) k ix = some (ci, kf) from h)
      rcases List.mem_append.mp h with h | h
      · have hc := List.all_eq_true.mp qckF_ok _ h
        unfold qckF at hc
        dsimp only at hc
        split at hc
        · next q hq =>
          simp only [Bool.and_eq_true, decide_eq_true_eq, Bool.or_eq_true, Bool.not_eq_true', beq_iff_eq] at hc
          refine ⟨q, hq, hc.1, Or.inl ⟨?_, fun hf => ?_⟩⟩
          · refine List.mem_append_left _ (qTs_F (List.mem_flatMap.mpr ⟨_, h, ?_⟩))
            unfold qwF
            dsimp only
            rw [qfw_eq hq, ho]
            exact List.mem_singleton_self _
          · rcases hc.2 with e | e
            · rw [hf] at e; cases e
            · rw [e, ho]
        · cases hc
      · have hc := List.all_eq_true.mp qckN_ok _ h
        unfold qckN at hc
        dsimp only at hc
        split at hc
        · next q hq =>
          simp only [Bool.and_eq_true, decide_eq_true_eq, Bool.not_eq_true', beq_eq_false_iff_ne] at hc
          refine ⟨q, hq, hc.1, Or.inr ⟨hc.2, qhost k ix, ?_⟩⟩
          refine List.mem_append_right _ (List.mem_append_left _ (List.mem_map.mpr ⟨_, h, ?_⟩))
          dsimp only
          rw [qfw_eq hq, ho]
        · cases hc
    · intro ix ci h
      have h := qfind_mem (show qfind qnl k ix = some ci from h)
      have hc := List.all_eq_true.mp qckK_ok _ h
      unfold qckK at hc
      obtain ⟨q, hq⟩ := Option.isSome_iff_exists.mp hc
      have hm : ∀ w ∈ qwN (k, ix, ci), w ∈ qTs := fun w hw => qTs_N (List.mem_flatMap.mpr ⟨_, h, hw⟩)
      unfold qwN at hm
      dsimp only at hm hq
      rw [hq] at hm
      dsimp only at hm
      rw [ho] at hm
      exact ⟨q, hq, hm _ (by simp), hm _ (by simp), hm _ (by simp)⟩
    · intro ix v h
      have h := qfind_mem (show qfind qkl k ix = some v from h)
      have hc := List.all_eq_true.mp qckV_ok _ h
      have hm : ∀ w ∈ qwK (k, ix, v), w ∈ qTs := fun w hw => qTs_K (List.mem_flatMap.mpr ⟨_, h, hw⟩)
      unfold qwK at hm
      dsimp only at hm
      rw [ho] at hm
      cases v <;> first | exact hm _ (by simp) | (simp [qckV] at hc)
  · intro t ht
    rcases ht with rfl | rfl | rfl | rfl <;> exact qTs_A (by simp [newarray.typeOf])
  · intro mi M hM
    have hM : qms[mi]? = some M := hM
    have hmem := List.mem_of_getElem? hM
    have hc := List.all_eq_true.mp qckM_ok _ hmem
    unfold qckM at hc
    simp only [Bool.and_eq_true, decide_eq_true_eq, Bool.or_eq_true, Bool.not_eq_true', beq_iff_eq, beq_eq_false_iff_ne] at hc
    obtain ⟨⟨⟨⟨⟨h1, h2⟩, h3⟩, h4⟩, h5⟩, h6⟩ := hc
    have hm : ∀ w ∈ qwM M, w ∈ qTs := fun w hw => qTs_M (List.mem_flatMap.mpr ⟨_, hmem, hw⟩)
    refine ⟨h1, h2, ⟨h3, h4⟩, hm _ (by simp [qwM]), hm _ (by simp [qwM]), h5, fun hi => ?_, ?_⟩
    · rcases h6 with e | e
      · rw [hi] at e; cases e
      · exact e
    · cases hh : M.2.2.2.2.2.2 with
      | nil => exact Or.inl ⟨by unfold qcw; rw [hh], hh⟩
      | cons a b => exact Or.inr ⟨_, by unfold qcw; rw [hh], by rw [hh]; simp⟩
  · intro k C ix mi kind n hC h
    have hC : qcn[k]? = some C := hC
    have ho := qown_eq hC
    have h := qfind_mem (show qfind qml k ix = some (mi, kind, n) from h)
    have hc := List.all_eq_true.mp qckL_ok _ h
    have hm : ∀ w ∈ qwL (k, ix, mi, kind, n), w ∈ qTs := fun w hw => qTs_L (List.mem_flatMap.mpr ⟨_, h, hw⟩)
    unfold qwL at hm
    dsimp only at hm
    rw [ho] at hm
    constructor
    · intro h3
      subst h3
      exact ⟨hm _ (by simp), hm _ (by simp), hm _ (by simp)⟩
    · intro hlt
      unfold qckL at hc
      dsimp only at hc
      rw [Bool.or_eq_true] at hc
      rcases hc with e | hc
      · simp only [beq_iff_eq] at e; omega
      · split at hc
        · next M hM =>
          rw [qmet_eq hM] at hm
          simp only [Bool.and_eq_true, decide_eq_true_eq, Bool.or_eq_true, Bool.not_eq_true', beq_eq_false_iff_ne, beq_iff_eq, Option.isNone_iff_eq_none, List.isEmpty_iff] at hc
          obtain ⟨⟨c1, c2⟩, c3⟩ := hc
          rcases (show kind = 0 ∨ kind = 1 ∨ kind = 2 by omega) with rfl | rfl | rfl
          · exact ⟨M, hM, hm _ (by simp), c1, fun _ => hm _ (by simp), fun e => by omega, fun e => by omega⟩
          · refine ⟨M, hM, hm _ (by simp), c1, fun e => by omega, fun _ => ⟨?_, hm _ (by simp), hm _ (by simp)⟩, fun e => by omega⟩
            rcases c2 with e | e
            · exact absurd rfl e
            · intro q hq
              have hq : qcl[M.1]? = some q := hq
              rw [hq] at e
              exact beq_iff_eq.mp e
          · refine ⟨M, hM, hm _ (by simp), c1, fun e => by omega, fun e => by omega, fun _ => ?_⟩
            rcases c3 with e | e
            · exact absurd rfl e
            · exact ⟨e.1.1, hm _ (by simp), e.1.2, e.2⟩
        · cases hc
  · exact fun w hw => List.all_eq_true.mp qTs_good w hw
