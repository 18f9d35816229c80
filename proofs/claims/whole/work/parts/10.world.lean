/-! what the abstract run is worth over the machine: the words -/
/-- the world at a state: the cells of h at ad, all of them new since n0 -/
def zWd (D : va_G) (cl : List vw_C) (tys : List (ClassId × FieldType)) (sa : Nat → Nat) (n0 : Nat) (zst : State → Prop) (ad : List Nat) (h : zH) (U : State) : Prop :=
  ∃ ws, zRel sa tys ad h ws ∧ va_P D cl ws U.heap ∧ va_D (fun q : Nat => n0 ≤ q) ws ∧ va_K D cl tys U ∧ zst U ∧ n0 ≤ U.heap.size
def zExc (xn : Nat → String) (x b : Nat) (U : State) : Prop := ∃ cell : Cell, U.heap[b]? = some cell ∧ cell.vm.isStatics = false ∧ U.vm.findClass (xn x) = some cell.cls
def zOut (sa : Nat → Nat) (xn : Nat → String) (ad : List Nat) (o : zO) (oc : Outcome) (U : State) : Prop := match o with
  | .inl none => oc = .returned none
  | .inl (some v) => ∃ c, oc = .returned (some c) ∧ zV sa ad v c
  | .inr x => ∃ b, oc = .threw b ∧ zExc xn x b U
def zQ (D : va_G) (cl : List vw_C) (tys : List (ClassId × FieldType)) (sa : Nat → Nat) (xn : Nat → String) (n0 : Nat) (zst : State → Prop) (ad : List Nat) (o : zO) (h' : zH) : Array Value → State → Outcome → State → Prop := fun _ st oc t =>
  (∃ xs, zWd D cl tys sa n0 zst (ad ++ xs) h' t ∧ zOut sa xn (ad ++ xs) o oc t) ∧ st.heap.size ≤ t.heap.size ∧ ∀ q : Nat, q < n0 → t.heap[q]? = st.heap[q]?
def zPc (D : va_G) (cl : List vw_C) (tys : List (ClassId × FieldType)) (sa : Nat → Nat) (n0 : Nat) (zst : State → Prop) (ad : List Nat) (h : zH) (cas : List Value) : Array Value → State → Prop := fun a U => a = cas.toArray ∧ zWd D cl tys sa n0 zst ad h U
def zrm (d mc ms : Nat) : Room := { frames := d + 30, cells := mc, slots := ms, locals := d * 100 + 600 }
theorem zrm_l (d mc ms : Nat) : (zrm d mc ms).locals = d * 100 + 600 := rfl
theorem zrm_f (d mc ms : Nat) : (zrm d mc ms).frames = d + 30 := rfl
theorem zrm_lo {d mc ms maxL : Nat} {L : Nat} (h1 : maxL ≤ 60) (h2 : d * 100 + 700 ≤ L) : 16 + (maxL + 11) + (zrm d mc ms).locals ≤ L := by have := zrm_l d mc ms; omega
theorem zrm_fo {d mc ms L : Nat} (h2 : d + 31 ≤ L) : (zrm d mc ms).frames + 1 ≤ L := by have := zrm_f d mc ms; omega
theorem zrm_1 (d mc ms : Nat) : d + 31 ≤ (zrm (d + 1) mc ms).frames := by have := zrm_f (d + 1) mc ms; omega
theorem zrm_2 (d mc ms : Nat) : 20 ≤ (zrm (d + 1) mc ms).frames := by have := zrm_f (d + 1) mc ms; omega
theorem zrm_3 (d mc ms : Nat) : d * 100 + 700 ≤ (zrm (d + 1) mc ms).locals := by have := zrm_l (d + 1) mc ms; omega
theorem zrm_4 (d mc ms : Nat) : 400 ≤ (zrm (d + 1) mc ms).locals := by have := zrm_l (d + 1) mc ms; omega
/-- the contract that an abstract result is worth -/
def zCon (l : Launch) (T : zTb) (Ts : List Jvm.Cond) (zcw : zM → Jvm.Cond) (D : va_G) (tys : List (ClassId × FieldType)) (sa : Nat → Nat) (xn : Nat → String) (n0 : Nat) (zst : State → Prop) (d : Nat) (mi : Nat) (as : List Value) (h : zH) (r : zRs) : Prop :=
  ∀ M, zTms T mi = some M → ∀ (ad : List Nat) (cas : List Value), zF sa ad as cas →
    zMet l M.2.1 (zcw M :: Ts) (zrm d r.2.2.1 r.2.2.2) (zPc D (zTcl T) tys sa n0 zst ad h cas) (zQ D (zTcl T) tys sa xn n0 zst ad r.1 r.2.1) r.2.2.1 r.2.2.2 (fun q : Nat => n0 ≤ q)
/-- the method's code word -/
def zCw (zcw : zM → Jvm.Cond) (M : zM) : Prop := (zcw M = .code M.2.1 M.2.2.1 M.2.2.2.1 M.2.2.2.2.1 ∧ M.2.2.2.2.2.2 = []) ∨ ∃ hh, zcw M = .codeWith M.2.1 M.2.2.1 M.2.2.2.1 M.2.2.2.2.1 hh ∧ M.2.2.2.2.2.2 ≠ []
def zMsOK (T : zTb) (Ts : List Jvm.Cond) (zcw : zM → Jvm.Cond) : Prop := ∀ (mi : Nat) (M : zM), zTms T mi = some M → zTcn T M.1 = some M.2.1.cls ∧ plainName M.2.1.cls = true ∧ (M.2.1.cls ≠ "java/lang/invoke/MethodHandle" ∧ M.2.1.cls ≠ "java/lang/invoke/VarHandle") ∧
  zcw M ∈ Ts ∧ Jvm.Cond.initialized M.2.1.cls ∈ Ts ∧ M.2.2.2.1 ≤ 60 ∧ (M.2.2.2.2.2.1 = true → M.2.1.name = "<init>") ∧ zCw zcw M
def zMlOK (T : zTb) (Ts : List Jvm.Cond) : Prop := ∀ (k : Nat) (C : String) (ix mi kind n : Nat), zTcn T k = some C → zTml T k ix = some (mi, kind, n) →
  (kind = 3 → Jvm.Cond.methodLink C ix objectInit ∈ Ts ∧ Jvm.Cond.instanceMethod objectInit ∈ Ts ∧ Jvm.Cond.code objectInit ⟨#[0xb1]⟩ 1 none ∈ Ts) ∧
  (kind < 3 → ∃ M, zTms T mi = some M ∧ Jvm.Cond.methodLink C ix M.2.1 ∈ Ts ∧ (parseMethodDescriptor M.2.1.desc).map (fun d => d.parameters.length) = some n ∧ (kind = 0 → Jvm.Cond.static M.2.1 ∈ Ts) ∧
    (kind = 1 → (∀ q : vw_C, (zTcl T)[M.1]? = some q → q.1 = M.2.1.cls) ∧ Jvm.Cond.instanceMethod M.2.1 ∈ Ts ∧ Jvm.Cond.selects M.2.1.cls M.2.1 M.2.1 ∈ Ts) ∧ (kind = 2 → M.2.1.name = "<init>" ∧ Jvm.Cond.instanceMethod M.2.1 ∈ Ts ∧ M.2.2.2.2.1 = none ∧ M.2.2.2.2.2.2 = []))
def zKl (Ts : List Jvm.Cond) (own : String) (ix : Nat) (v : Value) : Prop := match v with
  | .int x => Jvm.Cond.constant own ix x ∈ Ts
  | .long x => Jvm.Cond.constantLong own ix x ∈ Ts
  | .double x => Jvm.Cond.constantDouble own ix x ∈ Ts
  | _ => False
/-- the tables are as the words (Ts; of nest mates' fields: Ns) say -/
def zTabs (T : zTb) (Ts Ns : List Jvm.Cond) (zcw : zM → Jvm.Cond) : Prop := zCls (zTcl T) (zTty T) Ts ∧ (∀ (k : Nat) (C : String), zTcn T k = some C → zFl (zTcl T) (Ts ++ Ns) C k (zTfl T k) ∧ zNl (zTcl T) Ts C (zTnl T k) ∧ ∀ ix v, zTkl T k ix = some v → zKl Ts C ix v) ∧
  (∀ t : ArrayType, t = .int ∨ t = .boolean ∨ t = .long ∨ t = .double → Jvm.Cond.arrayClass (newarray.typeOf t) ∈ Ts) ∧ zMsOK T Ts zcw ∧ zMlOK T Ts ∧ ∀ w ∈ Ts, goodWord w = true
/-- the classes of the objects that were there before -/
def zSkOK (T : zTb) (sa : Nat → Nat) (n0 : Nat) (zst : State → Prop) : Prop := ∀ (s : State), zst s → ∀ (k ci : Nat) (C : String), zTsk T k = some ci → zTcn T ci = some C → 0 < k ∧ ∃ cell : Cell, (sa k < n0 ∧ s.heap[sa k]? = some cell) ∧ cell.vm.isStatics = false ∧ s.vm.findClass C = some cell.cls
/-- what lies below n0 stays -/
def zStay (n0 : Nat) (zst : State → Prop) : Prop := ∀ s U : State, zst s → s.WarmedH U.vm → (∀ q : Nat, q < n0 → U.heap[q]? = s.heap[q]?) → zst U
section ZW
variable {D : va_G} {cl : List vw_C} {tys : List (ClassId × FieldType)} {sa : Nat → Nat} {xn : Nat → String} {n0 : Nat} {zst : State → Prop} {ad : List Nat} {h : zH}
theorem zargs_eq {n : Nat} {st as r : List Value} (h : zargs n st = some (as, r)) : st = as.reverse ++ r ∧ as.length = n := by
  unfold zargs at h
  split at h
  · next hn =>
    cases h
    refine ⟨by simp, by simp; omega⟩
  · cases h
theorem zF.rev {ad : List Nat} : ∀ {vs cs : List Value}, zF sa ad vs cs → zF sa ad vs.reverse cs.reverse := by
  intro vs
  induction vs with
  | nil => intro cs h; cases zF_n h; exact True.intro
  | cons v vs ih =>
    intro cs h
    obtain ⟨c, cr, rfl, h1, h2⟩ := zF_c h
    rw [List.reverse_cons, List.reverse_cons]
    exact (ih h2).app ⟨h1, True.intro⟩
theorem zF.split : ∀ {vs ws cs : List Value}, zF sa ad (vs ++ ws) cs → ∃ c1 c2, cs = c1 ++ c2 ∧ zF sa ad vs c1 ∧ zF sa ad ws c2 := by
  intro vs
  induction vs with
  | nil => intro ws cs h; exact ⟨[], cs, rfl, True.intro, h⟩
  | cons v vs ih =>
    intro ws cs h
    obtain ⟨c, cr, rfl, h1, h2⟩ := zF_c (show zF sa ad (v :: (vs ++ ws)) cs from h)
    obtain ⟨c1, c2, rfl, h3, h4⟩ := ih h2
    exact ⟨c :: c1, c2, rfl, ⟨h1, h3⟩, h4⟩
theorem zF.cat : ∀ {vs cs : List Value}, zF sa ad vs cs → (cs.map fun v => v.category).sum = zcat vs := by
  intro vs
  induction vs with
  | nil => intro cs h; cases zF_n h; rfl
  | cons v vs ih =>
    intro cs h
    obtain ⟨c, cr, rfl, h1, h2⟩ := zF_c h
    have e := ih h2
    unfold zcat at e ⊢
    simp only [List.map_cons, List.sum_cons, h1.cat, e]
theorem zsl_len (vs : List Value) : (lg_sl vs).length = zcat vs := by
  induction vs with
  | nil => rfl
  | cons v vs ih =>
    unfold zcat at ih ⊢
    have e : lg_sl (v :: vs) = (if v.category = 2 then [.val v, .second] else [.val v]) ++ lg_sl vs := rfl
    rw [e, List.length_append, ih, List.map_cons, List.sum_cons]
    rcases lv_cat v with q | q <;> simp [q]
theorem zlv_args {ad : List Nat} : ∀ (vs cs : List Value) (i : Nat), zF sa ad vs cs → zLR sa ad (lv_args i vs) (lv_args i cs) := by
  intro vs
  induction vs with
  | nil => intro cs i h; cases zF_n h; exact True.intro
  | cons v vs ih =>
    intro cs i h
    obtain ⟨c, cr, rfl, h1, h2⟩ := zF_c h
    have e := h1.cat
    refine ⟨rfl, h1, ?_⟩
    rw [e]
    exact ih _ _ h2
end ZW
