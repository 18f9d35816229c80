/-! arrays, new cells. The kinds of arrays by their places in 'tys': 0 int, 1 boolean, 2 long, 3 double -/
def zTys (tys : List (ClassId × FieldType)) : Prop := ∃ a b c d, tys = [(a, .int), (b, .boolean), (c, .long), (d, .double)]
def zin (i : Int32) (n : Nat) : Bool := !(decide (i < 0)) && decide (i.toNatClampNeg < n)
theorem zin_ok {i : Int32} {n : Nat} (h : zin i n = true) : vp_in i n := by
  unfold zin at h
  simp only [Bool.and_eq_true, Bool.not_eq_true', decide_eq_false_iff_not, decide_eq_true_eq] at h
  intro q
  rcases q with q | q
  · exact h.1 q
  · omega
def zaldI (h : zH) (st : List Value) : Option (List Value) := match st with
  | .int i :: .ref a :: r => match h[a]? with
    | some (.inl (t, n, .inl f)) => if t = 0 ∧ zin i n = true then some (.int (f i.toNatClampNeg) :: r) else none
    | _ => none
  | _ => none
def zaldZ (h : zH) (st : List Value) : Option (List Value) := match st with
  | .int i :: .ref a :: r => match h[a]? with
    | some (.inl (t, n, .inl f)) => if t = 1 ∧ zin i n = true then some (.int (f i.toNatClampNeg) :: r) else none
    | _ => none
  | _ => none
def zaldL (h : zH) (st : List Value) : Option (List Value) := match st with
  | .int i :: .ref a :: r => match h[a]? with
    | some (.inl (t, n, .inr (.inl f))) => if t = 2 ∧ zin i n = true then some (.long (f i.toNatClampNeg) :: r) else none
    | _ => none
  | _ => none
def zaldD (h : zH) (st : List Value) : Option (List Value) := match st with
  | .int i :: .ref a :: r => match h[a]? with
    | some (.inl (t, n, .inr (.inr (.inr (.inl f))))) => if t = 3 ∧ zin i n = true then some (.double (f i.toNatClampNeg) :: r) else none
    | _ => none
  | _ => none
def zastI (h : zH) (st : List Value) : Option (zH × List Value) := match st with
  | .int x :: .int i :: .ref a :: r => match h[a]? with
    | some (.inl (t, n, .inl f)) => if t = 0 ∧ zin i n = true then some (h.set a (.inl (0, n, .inl (upd f i.toNatClampNeg x))), r) else none
    | _ => none
  | _ => none
def zastZ (h : zH) (st : List Value) : Option (zH × List Value) := match st with
  | .int x :: .int i :: .ref a :: r => match h[a]? with
    | some (.inl (t, n, .inl f)) => if t = 1 ∧ zin i n = true then some (h.set a (.inl (1, n, .inl (upd f i.toNatClampNeg (vp_nar .boolean x)))), r) else none
    | _ => none
  | _ => none
def zastL (h : zH) (st : List Value) : Option (zH × List Value) := match st with
  | .long x :: .int i :: .ref a :: r => match h[a]? with
    | some (.inl (t, n, .inr (.inl f))) => if t = 2 ∧ zin i n = true then some (h.set a (.inl (2, n, .inr (.inl (vp_updL f i.toNatClampNeg x)))), r) else none
    | _ => none
  | _ => none
def zastD (h : zH) (st : List Value) : Option (zH × List Value) := match st with
  | .double x :: .int i :: .ref a :: r => match h[a]? with
    | some (.inl (t, n, .inr (.inr (.inr (.inl f))))) => if t = 3 ∧ zin i n = true then some (h.set a (.inl (3, n, .inr (.inr (.inr (.inl (vf_upd f i.toNatClampNeg x)))))), r) else none
    | _ => none
  | _ => none
def zalen (h : zH) (st : List Value) : Option (List Value) := match st with
  | .ref a :: r => match h[a]? with
    | some (.inl (_, x)) => some (.int (Int32.ofNat x.1) :: r)
    | _ => none
  | _ => none
def zdef (tyf : Nat → Nat → FieldType) (ci n : Nat) : List Value := (List.range n).map (fun j => defaultValue (tyf ci j))
def znew (cl : List vw_C) (tyf : Nat → Nat → FieldType) (nl : Nat → Option Nat) (ix : Nat) (h : zH) (st : List Value) : Option (zH × List Value × Nat) := match nl ix with
  | some ci => match cl[ci]? with
    | some q => some (h ++ [.inr (ci, zdef tyf ci q.2.2)], .ref h.length :: st, q.2.2)
    | none => none
  | none => none
def znewa (t : ArrayType) (h : zH) (st : List Value) : Option (zH × List Value × Nat) := match st with
  | .int n :: r => if n < 0 ∨ 100000 < n.toNatClampNeg then none else match t with
    | .int => some (h ++ [.inl (0, n.toNatClampNeg, .inl (fun _ => 0))], .ref h.length :: r, n.toNatClampNeg)
    | .boolean => some (h ++ [.inl (1, n.toNatClampNeg, .inl (fun _ => 0))], .ref h.length :: r, n.toNatClampNeg)
    | .long => some (h ++ [.inl (2, n.toNatClampNeg, .inr (.inl (fun _ => 0)))], .ref h.length :: r, n.toNatClampNeg)
    | .double => some (h ++ [.inl (3, n.toNatClampNeg, .inr (.inr (.inr (.inl (fun _ => 0)))))], .ref h.length :: r, n.toNatClampNeg)
    | _ => none
  | _ => none
theorem zV_def (sa : Nat → Nat) (ad : List Nat) (ty : FieldType) : zV sa ad (defaultValue ty) (defaultValue ty) := by
  cases ty <;> exact rfl
theorem zF_def (sa : Nat → Nat) (ad : List Nat) (f : Nat → FieldType) : ∀ l : List Nat, zF sa ad (l.map (fun j => defaultValue (f j))) (l.map (fun j => defaultValue (f j))) := by
  intro l
  induction l with
  | nil => exact True.intro
  | cons a l ih => exact ⟨zV_def sa ad _, ih⟩
section ZA
variable {p : Program} {l : Launch} {e : Env} {R : Room} {s : State} {m : MethodId} {args : Array Value} {below : List Frame} {meth : Method} {c : Code} {H : Heap} {locs : List Loc} {cells slots : Nat} {Q : State → Prop}
variable {cc : ByteArray} {pc pc' nL len dn : Nat} {ls : Array Slot} {sa : Nat → Nat} {ad : List Nat} {st cs st' : List Value} {h h' : zH} {ws : va_W} {D : va_G} {cl : List vw_C} {tys : List (ClassId × FieldType)} {A : Nat → Prop} {Ts : List Jvm.Cond} {own : String} {tyf : Nat → Nat → FieldType} {nl : Nat → Option Nat}
theorem zRel.arr (hr : zRel sa tys ad h ws) {i t : Nat} {x : vp_A} (hi : h[i]? = some (.inl (t, x))) {b : Nat} (hb : ad[i]? = some b) : ∃ cA ty, ws[i]? = some (b, .inl (cA, x)) ∧ tys[t]? = some (cA, ty) := by
  obtain ⟨a, ee, ha, hw, hc⟩ := hr.2.2 _ _ hi
  cases ha.symm.trans hb
  cases ee with
  | inr x => exact absurd hc (by simp [zC])
  | inl y =>
    obtain ⟨yA, yx⟩ := y
    obtain ⟨⟨ty, h1⟩, h2⟩ := hc
    cases (show yx = x from h2)
    exact ⟨yA, ty, hw, h1⟩
theorem zC.arr {t : Nat} {x : vp_A} {cA : ClassId} {ty : FieldType} (ht : tys[t]? = some (cA, ty)) : zC sa tys ad (.inl (t, x)) (.inl (cA, x)) := ⟨⟨ty, ht⟩, rfl⟩
theorem zC.obj {ci : Nat} {fs gs : List Value} (hf : zF sa ad fs gs) : zC sa tys ad (.inr (ci, fs)) (.inr (ci, gs)) := ⟨rfl, hf⟩
theorem zTys.at0 (h : zTys tys) {q : ClassId × FieldType} (h0 : tys[0]? = some q) : q.2 = .int := by obtain ⟨a, b, c, d, rfl⟩ := h; cases h0; rfl
theorem zTys.at1 (h : zTys tys) {q : ClassId × FieldType} (h0 : tys[1]? = some q) : q.2 = .boolean := by obtain ⟨a, b, c, d, rfl⟩ := h; cases h0; rfl
theorem zTys.at2 (h : zTys tys) {q : ClassId × FieldType} (h0 : tys[2]? = some q) : q.2 = .long := by obtain ⟨a, b, c, d, rfl⟩ := h; cases h0; rfl
theorem zTys.at3 (h : zTys tys) {q : ClassId × FieldType} (h0 : tys[3]? = some q) : q.2 = .double := by obtain ⟨a, b, c, d, rfl⟩ := h; cases h0; rfl
theorem zaldI_ok (hx : p.tables.exec = Jvm.exec) (hb : c.code = cc) (hT : zTys tys) (hK : va_K D cl tys s) (hdg : decode cc pc = .ok (.iaload, 1)) (hr : zRel sa tys ad h ws) (hP : va_P D cl ws H) (hS : zF sa ad st cs)
    (hz : zaldI h st = some st') (kk : ∀ cs', zF sa ad st' cs' → W p l e R s m args below meth c H locs cells slots Q (F0 m (pc + 1) ls cs')) :
    W p l e R s m args below meth c H locs cells slots Q (F0 m pc ls cs) := by
  unfold zaldI at hz
  split at hz
  · next i a r =>
    obtain ⟨cr, rfl, hS1⟩ := zF_i hS
    obtain ⟨ca, cr2, rfl, hva, hS2⟩ := zF_c hS1
    obtain ⟨b, hb1, rfl⟩ := hva
    split at hz
    · next t n f hi =>
      split at hz
      · next hc =>
        obtain ⟨rfl, hin⟩ := hc
        cases hz
        obtain ⟨cA, ty, hw, ht⟩ := hr.arr hi hb1
        cases (show ty = .int from hT.at0 ht)
        exact va_iald hx hb hK hP a 0 hw ht (zin_ok hin) hdg (kk _ ⟨rfl, hS2⟩)
      · cases hz
    · cases hz
  · cases hz
theorem zaldZ_ok (hx : p.tables.exec = Jvm.exec) (hb : c.code = cc) (hT : zTys tys) (hK : va_K D cl tys s) (hdg : decode cc pc = .ok (.baload, 1)) (hr : zRel sa tys ad h ws) (hP : va_P D cl ws H) (hS : zF sa ad st cs)
    (hz : zaldZ h st = some st') (kk : ∀ cs', zF sa ad st' cs' → W p l e R s m args below meth c H locs cells slots Q (F0 m (pc + 1) ls cs')) :
    W p l e R s m args below meth c H locs cells slots Q (F0 m pc ls cs) := by
  unfold zaldZ at hz
  split at hz
  · next i a r =>
    obtain ⟨cr, rfl, hS1⟩ := zF_i hS
    obtain ⟨ca, cr2, rfl, hva, hS2⟩ := zF_c hS1
    obtain ⟨b, hb1, rfl⟩ := hva
    split at hz
    · next t n f hi =>
      split at hz
      · next hc =>
        obtain ⟨rfl, hin⟩ := hc
        cases hz
        obtain ⟨cA, ty, hw, ht⟩ := hr.arr hi hb1
        cases (show ty = .boolean from hT.at1 ht)
        exact va_zald hx hb hK hP a 1 hw ht (zin_ok hin) hdg (kk _ ⟨rfl, hS2⟩)
      · cases hz
    · cases hz
  · cases hz
theorem zaldL_ok (hx : p.tables.exec = Jvm.exec) (hb : c.code = cc) (hT : zTys tys) (hK : va_K D cl tys s) (hdg : decode cc pc = .ok (.laload, 1)) (hr : zRel sa tys ad h ws) (hP : va_P D cl ws H) (hS : zF sa ad st cs)
    (hz : zaldL h st = some st') (kk : ∀ cs', zF sa ad st' cs' → W p l e R s m args below meth c H locs cells slots Q (F0 m (pc + 1) ls cs')) :
    W p l e R s m args below meth c H locs cells slots Q (F0 m pc ls cs) := by
  unfold zaldL at hz
  split at hz
  · next i a r =>
    obtain ⟨cr, rfl, hS1⟩ := zF_i hS
    obtain ⟨ca, cr2, rfl, hva, hS2⟩ := zF_c hS1
    obtain ⟨b, hb1, rfl⟩ := hva
    split at hz
    · next t n f hi =>
      split at hz
      · next hc =>
        obtain ⟨rfl, hin⟩ := hc
        cases hz
        obtain ⟨cA, ty, hw, ht⟩ := hr.arr hi hb1
        cases (show ty = .long from hT.at2 ht)
        exact va_lald hx hb hK hP a 2 hw ht (zin_ok hin) hdg (kk _ ⟨rfl, hS2⟩)
      · cases hz
    · cases hz
  · cases hz
theorem zaldD_ok (hx : p.tables.exec = Jvm.exec) (hb : c.code = cc) (hT : zTys tys) (hK : va_K D cl tys s) (hdg : decode cc pc = .ok (.daload, 1)) (hr : zRel sa tys ad h ws) (hP : va_P D cl ws H) (hS : zF sa ad st cs)
    (hz : zaldD h st = some st') (kk : ∀ cs', zF sa ad st' cs' → W p l e R s m args below meth c H locs cells slots Q (F0 m (pc + 1) ls cs')) :
    W p l e R s m args below meth c H locs cells slots Q (F0 m pc ls cs) := by
  unfold zaldD at hz
  split at hz
  · next i a r =>
    obtain ⟨cr, rfl, hS1⟩ := zF_i hS
    obtain ⟨ca, cr2, rfl, hva, hS2⟩ := zF_c hS1
    obtain ⟨b, hb1, rfl⟩ := hva
    split at hz
    · next t n f hi =>
      split at hz
      · next hc =>
        obtain ⟨rfl, hin⟩ := hc
        cases hz
        obtain ⟨cA, ty, hw, ht⟩ := hr.arr hi hb1
        cases (show ty = .double from hT.at3 ht)
        exact va_dald hx hb hK hP a 3 hw ht (zin_ok hin) hdg (kk _ ⟨rfl, hS2⟩)
      · cases hz
    · cases hz
  · cases hz
theorem zastI_ok (hx : p.tables.exec = Jvm.exec) (hb : c.code = cc) (hT : zTys tys) (hK : va_K D cl tys s) (hdg : decode cc pc = .ok (.iastore, 1)) (hr : zRel sa tys ad h ws) (hP : va_P D cl ws H) (hD : va_D A ws) (hS0 : va_S A s.heap H locs) (hS : zF sa ad st cs)
    (hz : zastI h st = some (h', st')) (kk : ∀ (ws' : va_W) (H1 : Heap) (locs1 : List Loc) (cs' : List Value), zRel sa tys ad h' ws' → va_P D cl ws' H1 → va_D A ws' → va_S A s.heap H1 locs1 → zF sa ad st' cs' → W p l e R s m args below meth c H1 locs1 cells slots Q (F0 m (pc + 1) ls cs')) :
    W p l e R s m args below meth c H locs cells slots Q (F0 m pc ls cs) := by
  unfold zastI at hz
  split at hz
  · next x i a r =>
    obtain ⟨cr0, rfl, hS0'⟩ := zF_i hS
    obtain ⟨cr, rfl, hS1⟩ := zF_i hS0'
    obtain ⟨ca, cr2, rfl, hva, hS2⟩ := zF_c hS1
    obtain ⟨b, hb1, rfl⟩ := hva
    split at hz
    · next t n f hi =>
      split at hz
      · next hc =>
        obtain ⟨rfl, hin⟩ := hc
        cases hz
        obtain ⟨cA, ty, hw, ht⟩ := hr.arr hi hb1
        cases (show ty = .int from hT.at0 ht)
        exact va_iast hx hb hK hP hD hS0 a 0 hw ht (zin_ok hin) hdg (fun H1 locs1 a1 a2 a3 => kk _ _ _ _ (hr.set hb1 (zC.arr ht)) a1 a2 a3 hS2)
      · cases hz
    · cases hz
  · cases hz
theorem zastZ_ok (hx : p.tables.exec = Jvm.exec) (hb : c.code = cc) (hT : zTys tys) (hK : va_K D cl tys s) (hdg : decode cc pc = .ok (.bastore, 1)) (hr : zRel sa tys ad h ws) (hP : va_P D cl ws H) (hD : va_D A ws) (hS0 : va_S A s.heap H locs) (hS : zF sa ad st cs)
    (hz : zastZ h st = some (h', st')) (kk : ∀ (ws' : va_W) (H1 : Heap) (locs1 : List Loc) (cs' : List Value), zRel sa tys ad h' ws' → va_P D cl ws' H1 → va_D A ws' → va_S A s.heap H1 locs1 → zF sa ad st' cs' → W p l e R s m args below meth c H1 locs1 cells slots Q (F0 m (pc + 1) ls cs')) :
    W p l e R s m args below meth c H locs cells slots Q (F0 m pc ls cs) := by
  unfold zastZ at hz
  split at hz
  · next x i a r =>
    obtain ⟨cr0, rfl, hS0'⟩ := zF_i hS
    obtain ⟨cr, rfl, hS1⟩ := zF_i hS0'
    obtain ⟨ca, cr2, rfl, hva, hS2⟩ := zF_c hS1
    obtain ⟨b, hb1, rfl⟩ := hva
    split at hz
    · next t n f hi =>
      split at hz
      · next hc =>
        obtain ⟨rfl, hin⟩ := hc
        cases hz
        obtain ⟨cA, ty, hw, ht⟩ := hr.arr hi hb1
        cases (show ty = .boolean from hT.at1 ht)
        exact va_zast hx hb hK hP hD hS0 a 1 hw ht (zin_ok hin) hdg (fun H1 locs1 a1 a2 a3 => kk _ _ _ _ (hr.set hb1 (zC.arr ht)) a1 a2 a3 hS2)
      · cases hz
    · cases hz
  · cases hz
theorem zastL_ok (hx : p.tables.exec = Jvm.exec) (hb : c.code = cc) (hT : zTys tys) (hK : va_K D cl tys s) (hdg : decode cc pc = .ok (.lastore, 1)) (hr : zRel sa tys ad h ws) (hP : va_P D cl ws H) (hD : va_D A ws) (hS0 : va_S A s.heap H locs) (hS : zF sa ad st cs)
    (hz : zastL h st = some (h', st')) (kk : ∀ (ws' : va_W) (H1 : Heap) (locs1 : List Loc) (cs' : List Value), zRel sa tys ad h' ws' → va_P D cl ws' H1 → va_D A ws' → va_S A s.heap H1 locs1 → zF sa ad st' cs' → W p l e R s m args below meth c H1 locs1 cells slots Q (F0 m (pc + 1) ls cs')) :
    W p l e R s m args below meth c H locs cells slots Q (F0 m pc ls cs) := by
  unfold zastL at hz
  split at hz
  · next x i a r =>
    obtain ⟨cr0, rfl, hS0'⟩ := zF_l hS
    obtain ⟨cr, rfl, hS1⟩ := zF_i hS0'
    obtain ⟨ca, cr2, rfl, hva, hS2⟩ := zF_c hS1
    obtain ⟨b, hb1, rfl⟩ := hva
    split at hz
    · next t n f hi =>
      split at hz
      · next hc =>
        obtain ⟨rfl, hin⟩ := hc
        cases hz
        obtain ⟨cA, ty, hw, ht⟩ := hr.arr hi hb1
        cases (show ty = .long from hT.at2 ht)
        exact va_last hx hb hK hP hD hS0 a 2 hw ht (zin_ok hin) hdg (fun H1 locs1 a1 a2 a3 => kk _ _ _ _ (hr.set hb1 (zC.arr ht)) a1 a2 a3 hS2)
      · cases hz
    · cases hz
  · cases hz
theorem zastD_ok (hx : p.tables.exec = Jvm.exec) (hb : c.code = cc) (hT : zTys tys) (hK : va_K D cl tys s) (hdg : decode cc pc = .ok (.dastore, 1)) (hr : zRel sa tys ad h ws) (hP : va_P D cl ws H) (hD : va_D A ws) (hS0 : va_S A s.heap H locs) (hS : zF sa ad st cs)
    (hz : zastD h st = some (h', st')) (kk : ∀ (ws' : va_W) (H1 : Heap) (locs1 : List Loc) (cs' : List Value), zRel sa tys ad h' ws' → va_P D cl ws' H1 → va_D A ws' → va_S A s.heap H1 locs1 → zF sa ad st' cs' → W p l e R s m args below meth c H1 locs1 cells slots Q (F0 m (pc + 1) ls cs')) :
    W p l e R s m args below meth c H locs cells slots Q (F0 m pc ls cs) := by
  unfold zastD at hz
  split at hz
  · next x i a r =>
    obtain ⟨cr0, rfl, hS0'⟩ := zF_d hS
    obtain ⟨cr, rfl, hS1⟩ := zF_i hS0'
    obtain ⟨ca, cr2, rfl, hva, hS2⟩ := zF_c hS1
    obtain ⟨b, hb1, rfl⟩ := hva
    split at hz
    · next t n f hi =>
      split at hz
      · next hc =>
        obtain ⟨rfl, hin⟩ := hc
        cases hz
        obtain ⟨cA, ty, hw, ht⟩ := hr.arr hi hb1
        cases (show ty = .double from hT.at3 ht)
        exact va_dast hx hb hK hP hD hS0 a 3 hw ht (zin_ok hin) hdg (fun H1 locs1 a1 a2 a3 => kk _ _ _ _ (hr.set hb1 (zC.arr ht)) a1 a2 a3 hS2)
      · cases hz
    · cases hz
  · cases hz
theorem zalen_ok (hx : p.tables.exec = Jvm.exec) (hb : c.code = cc) (hK : va_K D cl tys s) (hdg : decode cc pc = .ok (.arraylength, 1)) (hr : zRel sa tys ad h ws) (hP : va_P D cl ws H) (hS : zF sa ad st cs)
    (hz : zalen h st = some st') (kk : ∀ cs', zF sa ad st' cs' → W p l e R s m args below meth c H locs cells slots Q (F0 m (pc + 1) ls cs')) :
    W p l e R s m args below meth c H locs cells slots Q (F0 m pc ls cs) := by
  unfold zalen at hz
  split at hz
  · next a r =>
    obtain ⟨ca, cr2, rfl, hva, hS2⟩ := zF_c hS
    obtain ⟨b, hb1, rfl⟩ := hva
    split at hz
    · next t x hi =>
      cases hz
      obtain ⟨cA, ty, hw, ht⟩ := hr.arr hi hb1
      exact va_alen hx hb hK hP a t hw ht rfl hdg (kk _ ⟨rfl, hS2⟩)
    · cases hz
  · cases hz
theorem znew_ok (hx : p.tables.exec = Jvm.exec) (hb : c.code = cc) (hts : ∀ w ∈ Ts, w.before args s = true) (hown : s.vm.findClass own = some m.cls) (hK : va_K D cl tys s) (hcls : zCls cl tyf Ts) (hnl : zNl cl Ts own nl) (hA : ∀ q, s.heap.size ≤ q → A q)
    {ix : Nat} (hdg : decode cc pc = .ok (.new ix, 3)) (hr : zRel sa tys ad h ws) (hP : va_P D cl ws H) (hD : va_D A ws) (hS0 : va_S A s.heap H locs) (hS : zF sa ad st cs)
    (hz : znew cl tyf nl ix h st = some (h', st', dn)) (hc1 : cells + 1 ≤ R.cells) (hc2 : slots + dn ≤ R.slots)
    (kk : ∀ (x : List Nat) (ws' : va_W) (H1 : Heap) (cs' : List Value), zRel sa tys (ad ++ x) h' ws' → va_P D cl ws' H1 → va_D A ws' → va_S A s.heap H1 locs → zF sa (ad ++ x) st' cs' → W p l e R s m args below meth c H1 locs (cells + 1) (slots + dn) Q (F0 m (pc + 3) ls cs')) :
    W p l e R s m args below meth c H locs cells slots Q (F0 m pc ls cs) := by
  unfold znew at hz
  split at hz
  · next ci hci =>
    split at hz
    · next q hq =>
      cases hz
      obtain ⟨q', hq', w1, w2, w3⟩ := hnl _ _ hci
      cases hq.symm.trans hq'
      obtain ⟨g1, g2, g3⟩ := hcls _ _ hq
      refine va_new hx hb hts g1 (tyf ci) g2 hown (hts _ w1) (hts _ w2) (hts _ w3) hK hP hD hS0 hA hq (fs := zdef tyf ci q.2.2) (fun j hj => by simp [vp_V, zdef, hj]) hc1 hc2 hdg (fun qa H1 a1 a2 a3 => ?_)
      refine kk [qa] _ _ _ (hr.push (zC.obj (zF_def _ _ _ _))) a1 a2 a3 ⟨⟨qa, by rw [← hr.1]; simp, rfl⟩, hS.mono _⟩
    · cases hz
  · cases hz
theorem znewa_ok (hx : p.tables.exec = Jvm.exec) (hb : c.code = cc) (hT : zTys tys) (hK : va_K D cl tys s) (hA : ∀ q, s.heap.size ≤ q → A q) {t : ArrayType} (harr : (Jvm.Cond.arrayClass (newarray.typeOf t)).before args s = true)
    (hdg : decode cc pc = .ok (.newarray t, 2)) (hr : zRel sa tys ad h ws) (hP : va_P D cl ws H) (hD : va_D A ws) (hS0 : va_S A s.heap H locs) (hS : zF sa ad st cs)
    (hz : znewa t h st = some (h', st', dn)) (hc1 : cells + 1 ≤ R.cells) (hc2 : slots + dn ≤ R.slots)
    (kk : ∀ (x : List Nat) (ws' : va_W) (H1 : Heap) (cs' : List Value), zRel sa tys (ad ++ x) h' ws' → va_P D cl ws' H1 → va_D A ws' → va_S A s.heap H1 locs → zF sa (ad ++ x) st' cs' → W p l e R s m args below meth c H1 locs (cells + 1) (slots + dn) Q (F0 m (pc + 2) ls cs')) :
    W p l e R s m args below meth c H locs cells slots Q (F0 m pc ls cs) := by
  unfold znewa at hz
  split at hz
  · next n r =>
    obtain ⟨cr, rfl, hS1⟩ := zF_i hS
    split at hz
    · cases hz
    · next hn =>
      have hn0 : ¬ n < 0 := fun q => hn (Or.inl q)
      have hn1 : n.toNatClampNeg ≤ 100000 := by
        rcases Nat.lt_or_ge 100000 n.toNatClampNeg with q | q
        · exact absurd (Or.inr q) hn
        · exact q
      have key : ∀ {ty : FieldType} {t0 : Nat} {cA c1 : ClassId}, tys[t0]? = some (c1, ty) → (∀ n, ty ≠ .object n) → va_K D cl (tys ++ [(cA, ty)]) s → cA = c1 := by
        intro ty t0 cA c1 h1 hty h2
        have a1 := (h2.2 t0 (c1, ty) (by rw [List.getElem?_append_left (List.getElem?_eq_some_iff.mp h1).1]; exact h1)).2
        have a2 := (h2.2 tys.length (cA, ty) (by simp)).2
        cases ty <;> first | exact absurd rfl (hty _) | exact Option.some.inj (a2.symm.trans a1)
      obtain ⟨ta, tb, tc, td, hte⟩ := id hT
      split at hz
      · cases hz
        refine va_newa hx hb harr rfl hK hP hD hS0 hA (a0 := (n.toNatClampNeg, .inl (fun _ => 0))) (fun cA => rfl) hn0 rfl (by simp only [newarray.typeOf, componentBytes]; omega) hc1 hc2 hdg (fun qa cA H1 a0 a1 a2 a3 => ?_)
        have ht : tys[0]? = some (ta, .int) := by rw [hte]; rfl
        cases key ht (fun n q => by cases q) a0
        refine kk [qa] _ _ _ (hr.push (zC.arr ht)) a1 a2 a3 ⟨⟨qa, by rw [← hr.1]; simp, rfl⟩, hS1.mono _⟩
      · cases hz
        refine va_newa hx hb harr rfl hK hP hD hS0 hA (a0 := (n.toNatClampNeg, .inl (fun _ => 0))) (fun cA => rfl) hn0 rfl (by simp only [newarray.typeOf, componentBytes]; omega) hc1 hc2 hdg (fun qa cA H1 a0 a1 a2 a3 => ?_)
        have ht : tys[1]? = some (tb, .boolean) := by rw [hte]; rfl
        cases key ht (fun n q => by cases q) a0
        refine kk [qa] _ _ _ (hr.push (zC.arr ht)) a1 a2 a3 ⟨⟨qa, by rw [← hr.1]; simp, rfl⟩, hS1.mono _⟩
      · cases hz
        refine va_newa hx hb harr rfl hK hP hD hS0 hA (a0 := (n.toNatClampNeg, .inr (.inl (fun _ => 0)))) (fun cA => rfl) hn0 rfl (by simp only [newarray.typeOf, componentBytes]; omega) hc1 hc2 hdg (fun qa cA H1 a0 a1 a2 a3 => ?_)
        have ht : tys[2]? = some (tc, .long) := by rw [hte]; rfl
        cases key ht (fun n q => by cases q) a0
        refine kk [qa] _ _ _ (hr.push (zC.arr ht)) a1 a2 a3 ⟨⟨qa, by rw [← hr.1]; simp, rfl⟩, hS1.mono _⟩
      · cases hz
        refine va_newa hx hb harr rfl hK hP hD hS0 hA (a0 := (n.toNatClampNeg, .inr (.inr (.inr (.inl (fun _ => 0)))))) (fun cA => rfl) hn0 rfl (by simp only [newarray.typeOf, componentBytes]; omega) hc1 hc2 hdg (fun qa cA H1 a0 a1 a2 a3 => ?_)
        have ht : tys[3]? = some (td, .double) := by rw [hte]; rfl
        cases key ht (fun n q => by cases q) a0
        refine kk [qa] _ _ _ (hr.push (zC.arr ht)) a1 a2 a3 ⟨⟨qa, by rw [← hr.1]; simp, rfl⟩, hS1.mono _⟩
      · cases hz
  · cases hz
end ZA
