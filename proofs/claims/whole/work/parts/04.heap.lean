/-! cells: the abstract heap h, the addresses ad of its cells, the machine's world ws -/
def zprim (x : vp_A) : Prop := match x.2 with
  | .inr (.inr (.inr (.inr _))) => False
  | _ => True
def zC (sa : Nat → Nat) (tys : List (ClassId × FieldType)) (ad : List Nat) (e : zE) (e' : va_E) : Prop := match e, e' with
  | .inl x, .inl y => (∃ ty, tys[x.1]? = some (y.1, ty)) ∧ y.2 = x.2
  | .inr x, .inr y => y.1 = x.1 ∧ zF sa ad x.2 y.2
  | _, _ => False
def zRel (sa : Nat → Nat) (tys : List (ClassId × FieldType)) (ad : List Nat) (h : zH) (ws : va_W) : Prop :=
  ad.length = h.length ∧ ws.length = h.length ∧ ∀ (i : Nat) (e : zE), h[i]? = some e → ∃ a e', ad[i]? = some a ∧ ws[i]? = some (a, e') ∧ zC sa tys ad e e'
theorem zV.mono {sa : Nat → Nat} {ad : List Nat} (x : List Nat) {v c : Value} (h : zV sa ad v c) : zV sa (ad ++ x) v c := by
  cases v <;> try exact h
  obtain ⟨a, h1, h2⟩ := h
  exact ⟨a, by rw [List.getElem?_append_left (List.getElem?_eq_some_iff.mp h1).1]; exact h1, h2⟩
theorem zF.mono {sa : Nat → Nat} {ad : List Nat} (x : List Nat) : ∀ {vs cs : List Value}, zF sa ad vs cs → zF sa (ad ++ x) vs cs := by
  intro vs
  induction vs with
  | nil => intro cs h; cases zF_n h; exact True.intro
  | cons v vs ih =>
    intro cs h
    obtain ⟨c, cr, rfl, h1, h2⟩ := zF_c h
    exact ⟨h1.mono x, ih h2⟩
theorem zLR.mono {sa : Nat → Nat} {ad : List Nat} (x : List Nat) : ∀ {l k : zL}, zLR sa ad l k → zLR sa (ad ++ x) l k := by
  intro l
  induction l with
  | nil => intro k h; cases k with
    | nil => exact True.intro
    | cons r k => exact absurd h (by simp [zLR])
  | cons q l ih =>
    intro k h
    cases k with
    | nil => exact absurd h (by simp [zLR])
    | cons r k => exact ⟨h.1, h.2.1.mono x, ih h.2.2⟩
theorem zC.mono {tys : List (ClassId × FieldType)} {sa : Nat → Nat} {ad : List Nat} (x : List Nat) {e : zE} {e' : va_E} (h : zC sa tys ad e e') : zC sa tys (ad ++ x) e e' := by
  cases e <;> cases e' <;> first | exact h | exact ⟨h.1, h.2.mono x⟩
theorem zF.at {sa : Nat → Nat} {ad : List Nat} : ∀ {vs cs : List Value}, zF sa ad vs cs → ∀ {k : Nat} {v : Value}, vs[k]? = some v → ∃ c, cs[k]? = some c ∧ zV sa ad v c := by
  intro vs
  induction vs with
  | nil => intro cs h k v hk; simp at hk
  | cons w vs ih =>
    intro cs h k v hk
    obtain ⟨c, cr, rfl, h1, h2⟩ := zF_c h
    cases k with
    | zero => cases hk; exact ⟨c, rfl, h1⟩
    | succ k => exact ih h2 hk
theorem zF.len {sa : Nat → Nat} {ad : List Nat} : ∀ {vs cs : List Value}, zF sa ad vs cs → cs.length = vs.length := by
  intro vs
  induction vs with
  | nil => intro cs h; cases zF_n h; rfl
  | cons w vs ih =>
    intro cs h
    obtain ⟨c, cr, rfl, h1, h2⟩ := zF_c h
    simp [ih h2]
theorem zF.set {sa : Nat → Nat} {ad : List Nat} : ∀ {vs cs : List Value}, zF sa ad vs cs → ∀ (k : Nat) {v c : Value}, zV sa ad v c → zF sa ad (vs.set k v) (cs.set k c) := by
  intro vs
  induction vs with
  | nil => intro cs h k v c hv; cases zF_n h; exact True.intro
  | cons w vs ih =>
    intro cs h k v c hv
    obtain ⟨d, cr, rfl, h1, h2⟩ := zF_c h
    cases k with
    | zero => exact ⟨hv, h2⟩
    | succ k => exact ⟨h1, ih h2 k hv⟩
theorem zF.app {sa : Nat → Nat} {ad : List Nat} : ∀ {vs cs : List Value}, zF sa ad vs cs → ∀ {ws ds : List Value}, zF sa ad ws ds → zF sa ad (vs ++ ws) (cs ++ ds) := by
  intro vs
  induction vs with
  | nil => intro cs h ws ds h2; cases zF_n h; exact h2
  | cons w vs ih =>
    intro cs h ws ds h2
    obtain ⟨d, cr, rfl, h1, h3⟩ := zF_c h
    exact ⟨h1, ih h3 h2⟩
theorem zRel.set {tys : List (ClassId × FieldType)} {sa : Nat → Nat} {ad : List Nat} {h : zH} {ws : va_W} (hr : zRel sa tys ad h ws) {i a : Nat} {e : zE} {e' : va_E} (ha : ad[i]? = some a) (he : zC sa tys ad e e') : zRel sa tys ad (h.set i e) (ws.set i (a, e')) := by
  obtain ⟨h1, h2, h3⟩ := hr
  refine ⟨by simpa using h1, by simpa using h2, fun j x hx => ?_⟩
  by_cases hj : i = j
  · subst hj
    have hi : i < h.length := by
      have := (List.getElem?_eq_some_iff.mp hx).1
      simpa using this
    rw [List.getElem?_set_self hi] at hx
    cases hx
    exact ⟨a, e', ha, by rw [List.getElem?_set_self (by omega)], he⟩
  · rw [List.getElem?_set_ne hj] at hx ⊢
    exact h3 j x hx
theorem zRel.push {tys : List (ClassId × FieldType)} {sa : Nat → Nat} {ad : List Nat} {h : zH} {ws : va_W} (hr : zRel sa tys ad h ws) {a : Nat} {e : zE} {e' : va_E} (he : zC sa tys (ad ++ [a]) e e') : zRel sa tys (ad ++ [a]) (h ++ [e]) (ws ++ [(a, e')]) := by
  obtain ⟨h1, h2, h3⟩ := hr
  refine ⟨by simp [h1], by simp [h2], fun j x hx => ?_⟩
  by_cases hj : j < h.length
  · rw [List.getElem?_append_left hj] at hx
    obtain ⟨b, e1, q1, q2, q3⟩ := h3 j x hx
    exact ⟨b, e1, by rw [List.getElem?_append_left (by omega)]; exact q1, by rw [List.getElem?_append_left (by omega)]; exact q2, q3.mono _⟩
  · have hj2 : j = h.length := by
      have := (List.getElem?_eq_some_iff.mp hx).1
      simp at this
      omega
    subst hj2
    have hx2 : x = e := by simpa using hx.symm
    subst hx2
    exact ⟨a, e', by rw [← h1]; simp, by rw [← h2]; simp, he⟩
/-- the rows of a class' table and what the tables' words give of it -/
def zCls (cl : List vw_C) (tyf : Nat → Nat → FieldType) (Ts : List Jvm.Cond) : Prop := ∀ (ci : Nat) (q : vw_C), cl[ci]? = some q →
  (∀ w ∈ u_ws q.1 q.2.1 q.2.2, w ∈ Ts) ∧ (∀ k, k < q.2.2 → parseFieldDescriptor (q.2.1 k).2.2.1 = some (tyf ci k)) ∧ (∀ a, a < q.2.2 → ∀ b, b < q.2.2 → a ≠ b → (q.2.1 a).2.1 ≠ (q.2.1 b).2.1)
/-- the fields that the class 'own' (its number: k0) names by numbers -/
def zFl (cl : List vw_C) (Ts : List Jvm.Cond) (own : String) (k0 : Nat) (fl : Nat → Option (Nat × Nat)) : Prop := ∀ (ix ci k : Nat), fl ix = some (ci, k) → ∃ q : vw_C, cl[ci]? = some q ∧ k < q.2.2 ∧
  ((Jvm.Cond.fieldLink own ix (q.2.1 k).1 (q.2.1 k).2.1 (q.2.1 k).2.2.1 ∈ Ts ∧ ((q.2.1 k).2.2.2 = true → (q.2.1 k).1 = own)) ∨ (ci ≠ k0 ∧ ∃ host, Jvm.Cond.fieldLinkNest own ix (q.2.1 k).1 (q.2.1 k).2.1 (q.2.1 k).2.2.1 host ∈ Ts))
/-- the classes that 'own' makes objects of -/
def zNl (cl : List vw_C) (Ts : List Jvm.Cond) (own : String) (nl : Nat → Option Nat) : Prop := ∀ (ix ci : Nat), nl ix = some ci → ∃ q : vw_C, cl[ci]? = some q ∧ Jvm.Cond.classLink own ix q.1 ∈ Ts ∧ Jvm.Cond.instantiable q.1 q.2.2 ∈ Ts ∧ Jvm.Cond.initialized q.1 ∈ Ts
def zfit (ty : FieldType) (v : Value) : Bool := match ty, v with
  | .int, .int _ => true
  | .boolean, .int x => x == 0 || x == 1
  | .object _, .ref _ => true
  | .array _, .ref _ => true
  | _, _ => false
theorem zfit_ok {sa : Nat → Nat} {ad : List Nat} {ty : FieldType} {v c : Value} (h : zfit ty v = true) (hv : zV sa ad v c) : narrow ty c = c ∧ fits ty c = true := by
  unfold zfit at h
  split at h
  · cases hv; exact ⟨rfl, rfl⟩
  · next x =>
    cases hv
    simp only [Bool.or_eq_true, beq_iff_eq] at h
    rcases h with rfl | rfl <;> exact ⟨by decide, by decide⟩
  · obtain ⟨a, -, rfl⟩ := hv; exact ⟨rfl, rfl⟩
  · obtain ⟨a, -, rfl⟩ := hv; exact ⟨rfl, rfl⟩
  · cases h
def zfinal (cl : List vw_C) (ci k : Nat) : Bool := match cl[ci]? with
  | some q => (q.2.1 k).2.2.2
  | none => true
def zgetf (fl : Nat → Option (Nat × Nat)) (ix : Nat) (h : zH) (st : List Value) : Option (List Value) := match st with
  | .ref i :: r => match fl ix, h[i]? with
    | some (ci, k), some (.inr (cj, fs)) => if cj = ci then (fs[k]?).map (fun v => v :: r) else none
    | _, _ => none
  | _ => none
def zputf (cl : List vw_C) (tyf : Nat → Nat → FieldType) (init : Bool) (k0 : Nat) (fl : Nat → Option (Nat × Nat)) (ix : Nat) (h : zH) (st : List Value) : Option (zH × List Value) := match st with
  | v :: .ref i :: r => match fl ix, h[i]? with
    | some (ci, k), some (.inr (cj, fs)) => if cj = ci ∧ k < fs.length ∧ zfit (tyf ci k) v = true ∧ (zfinal cl ci k = true → init = true ∧ ci = k0) then some (h.set i (.inr (ci, fs.set k v)), r) else none
    | _, _ => none
  | _ => none
section ZH
variable {p : Program} {l : Launch} {e : Env} {R : Room} {s : State} {m : MethodId} {args : Array Value} {below : List Frame} {meth : Method} {c : Code} {H : Heap} {locs : List Loc} {cells slots : Nat} {Q : State → Prop}
variable {cc : ByteArray} {pc pc' nL len : Nat} {ls : Array Slot} {sa : Nat → Nat} {ad : List Nat} {st cs st' : List Value} {h h' : zH} {ws : va_W} {D : va_G} {cl : List vw_C} {tys : List (ClassId × FieldType)} {A : Nat → Prop} {Ts : List Jvm.Cond} {own : String} {tyf : Nat → Nat → FieldType} {fl : Nat → Option (Nat × Nat)} {init : Bool} {k0 : Nat}
theorem zgetf_ok (hx : p.tables.exec = Jvm.exec) (hb : c.code = cc) (hts : ∀ w ∈ Ts, w.before args s = true) (hown : s.vm.findClass own = some m.cls) (hK : va_K D cl tys s) (hcls : zCls cl tyf Ts) (hfl : zFl cl Ts own k0 fl)
    {ix : Nat} (hdg : decode cc pc = .ok (.getfield ix, 3)) (hr : zRel sa tys ad h ws) (hP : va_P D cl ws H) (hS : zF sa ad st cs)
    (hz : zgetf fl ix h st = some st') (kk : ∀ cs', zF sa ad st' cs' → W p l e R s m args below meth c H locs cells slots Q (F0 m (pc + 3) ls cs')) :
    W p l e R s m args below meth c H locs cells slots Q (F0 m pc ls cs) := by
  unfold zgetf at hz
  split at hz
  · next i r =>
    obtain ⟨cv, cr, rfl, hv, hS1⟩ := zF_c hS
    split at hz
    · next ci k cj fs hf hi =>
      split at hz
      · next hcj =>
        subst hcj
        obtain ⟨v, hv2, e1⟩ := Option.map_eq_some_iff.mp hz
        cases e1
        obtain ⟨q, hq, hk, hlk⟩ := hfl _ _ _ hf
        obtain ⟨a, ee, ha, hw, hc⟩ := hr.2.2 _ _ hi
        obtain ⟨b, hb1, rfl⟩ := hv
        cases ha.symm.trans hb1
        cases ee with
        | inl x => exact absurd hc (by simp [zC])
        | inr x =>
          obtain ⟨xi, xs⟩ := x
          obtain ⟨hc1, hc2⟩ := hc
          cases (show xi = cj from hc1)
          obtain ⟨cw, hcw, hcv⟩ := hc2.at hv2
          rcases hlk with ⟨hlk, -⟩ | ⟨-, host, hlk⟩
          · exact va_get hx hb hts (hcls _ _ hq).1 hown hK hP i hw hq k hk (hts _ hlk) (fun x hx => hx) hcw hdg (kk _ ⟨hcv, hS1⟩)
          · exact va_getN hx hb hts (hcls _ _ hq).1 hown hK hP i hw hq k hk (hts _ hlk) (fun x hx => hx) hcw hdg (kk _ ⟨hcv, hS1⟩)
      · cases hz
    · cases hz
  · cases hz
theorem zputf_ok (hx : p.tables.exec = Jvm.exec) (hb : c.code = cc) (hts : ∀ w ∈ Ts, w.before args s = true) (hown : s.vm.findClass own = some m.cls) (hK : va_K D cl tys s) (hcls : zCls cl tyf Ts) (hfl : zFl cl Ts own k0 fl) (hini : init = true → meth.name = "<init>")
    {ix : Nat} (hdg : decode cc pc = .ok (.putfield ix, 3)) (hr : zRel sa tys ad h ws) (hP : va_P D cl ws H) (hD : va_D A ws) (hS0 : va_S A s.heap H locs) (hS : zF sa ad st cs)
    (hz : zputf cl tyf init k0 fl ix h st = some (h', st')) (kk : ∀ (ws' : va_W) (H1 : Heap) (locs1 : List Loc) (cs' : List Value), zRel sa tys ad h' ws' → va_P D cl ws' H1 → va_D A ws' → va_S A s.heap H1 locs1 → zF sa ad st' cs' → W p l e R s m args below meth c H1 locs1 cells slots Q (F0 m (pc + 3) ls cs')) :
    W p l e R s m args below meth c H locs cells slots Q (F0 m pc ls cs) := by
  unfold zputf at hz
  split at hz
  · next v i r =>
    obtain ⟨cv, cr, rfl, hv, hS1⟩ := zF_c hS
    obtain ⟨ca, cr2, rfl, hva, hS2⟩ := zF_c hS1
    split at hz
    · next ci k cj fs hf hi =>
      split at hz
      · next hcj =>
        obtain ⟨rfl, hkl, hft, hfi⟩ := hcj
        cases hz
        obtain ⟨q, hq, hk, hlk⟩ := hfl _ _ _ hf
        obtain ⟨a, ee, ha, hw, hc⟩ := hr.2.2 _ _ hi
        obtain ⟨b, hb1, rfl⟩ := hva
        cases ha.symm.trans hb1
        have hfin : zfinal cl cj k = (q.2.1 k).2.2.2 := by unfold zfinal; rw [hq]
        obtain ⟨hn, hfit⟩ := zfit_ok hft hv
        cases ee with
        | inl x => exact absurd hc (by simp [zC])
        | inr x =>
          obtain ⟨xi, xs⟩ := x
          obtain ⟨hc1, hc2⟩ := hc
          cases (show xi = cj from hc1)
          have hkx : k < xs.length := by rw [zF.len hc2]; exact hkl
          have hrel := hr.set (i := i) (a := a) (e := .inr (cj, fs.set k v)) (e' := .inr (cj, xs.set k cv)) ha ⟨rfl, hc2.set k hv⟩
          obtain ⟨g1, g2, g3⟩ := hcls _ _ hq
          cases hff : (q.2.1 k).2.2.2 with
          | true =>
            rw [hff] at hfin
            rcases hlk with ⟨hlk, hd⟩ | ⟨hd, -⟩
            · exact va_putF hx hb hts g1 (tyf cj) g2 g3 hown hK hP hD hS0 i hw hq k hk (hts _ hlk) (fun x hx => hx) hff (hini (hfi hfin).1) (hd hff) (g2 k hk) hn hfit hkx hdg (fun H1 locs1 a1 a2 a3 => kk _ _ _ _ hrel a1 a2 a3 hS2)
            · exact absurd (hfi hfin).2 hd
          | false =>
            rcases hlk with ⟨hlk, -⟩ | ⟨-, host, hlk⟩
            · exact va_put hx hb hts g1 (tyf cj) g2 g3 hown hK hP hD hS0 i hw hq k hk (hts _ hlk) (fun x hx => hx) hff (g2 k hk) hn hfit hkx hdg (fun H1 locs1 a1 a2 a3 => kk _ _ _ _ hrel a1 a2 a3 hS2)
            · exact va_putN hx hb hts g1 (tyf cj) g2 g3 hown hK hP hD hS0 i hw hq k hk (hts _ hlk) (fun x hx => hx) hff (g2 k hk) hn hfit hkx hdg (fun H1 locs1 a1 a2 a3 => kk _ _ _ _ hrel a1 a2 a3 hS2)
      · cases hz
    · cases hz
  · cases hz
end ZH
