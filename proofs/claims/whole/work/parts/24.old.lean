/-! what was there before: statics, objects' fields, arrays, String constants -/
/-- the address in place of the number -/
def zcv (sa : Nat → Nat) (v : Value) : Value := match v with
  | .retAddr k => .ref (sa k)
  | w => w
def zgood (v : Value) : Bool := match v with
  | .ref _ => false
  | _ => true
theorem zcv_ok {sa : Nat → Nat} {ad : List Nat} {v : Value} (h : zgood v = true) : zV sa ad v (zcv sa v) := by
  cases v <;> simp [zgood, zcv, zV] at h ⊢
/-- statics by numbers (class, name, type, value); by class and pool number a static's number; fields by numbers; by class and pool number a field's number; an object's field; arrays; by class and pool number a String's object -/
abbrev zEx : Type := (Nat → Option (String × String × String × Value)) × (Nat → Nat → Option Nat) × (Nat → Option (String × String × String)) × (Nat → Nat → Option Nat) × (Nat → Nat → Option Value) × (Nat → Option (FieldType × Nat × (Nat → Value))) × (Nat → Nat → Option Nat)
def zExS (X : zEx) : Nat → Option (String × String × String × Value) := X.1
def zExSl (X : zEx) : Nat → Nat → Option Nat := X.2.1
def zExF (X : zEx) : Nat → Option (String × String × String) := X.2.2.1
def zExFl (X : zEx) : Nat → Nat → Option Nat := X.2.2.2.1
def zExO (X : zEx) : Nat → Nat → Option Value := X.2.2.2.2.1
def zExA (X : zEx) : Nat → Option (FieldType × Nat × (Nat → Value)) := X.2.2.2.2.2.1
def zExR (X : zEx) : Nat → Nat → Option Nat := X.2.2.2.2.2.2
def zaty (i : Instr) (ty : FieldType) : Bool := match i, ty with
  | .iaload, .int => true
  | .baload, .byte => true
  | .baload, .boolean => true
  | .caload, .char => true
  | .laload, .long => true
  | .aaload, .object _ => true
  | _, _ => false
def zaget (X : zEx) (i : Instr) (st : List Value) : Option (List Value) := match st with
  | .int j :: .retAddr q :: r => match zExA X q with
    | some (ty, n, f) => if zaty i ty = true ∧ ¬ (j < 0) ∧ j.toNatClampNeg < n ∧ zgood (f j.toNatClampNeg) = true ∧ zlen i = 1 then some (f j.toNatClampNeg :: r) else none
    | none => none
  | _ => none
def zext (X : zEx) (k : Nat) (i : Instr) (st : List Value) : Option (List Value) := match i with
  | .ldc ix => match zExR X k ix with
    | some q => if 0 < q then some (.retAddr q :: st) else none
    | none => none
  | .getstatic ix => match zExSl X k ix with
    | some j => match zExS X j with
      | some q => if zgood q.2.2.2 = true then some (q.2.2.2 :: st) else none
      | none => none
    | none => none
  | .getfield ix => match st with
    | .retAddr o :: r => match zExFl X k ix with
      | some j => match zExO X o j with
        | some v => if 0 < o ∧ zgood v = true then some (v :: r) else none
        | none => none
      | none => none
    | _ => none
  | .arraylength => match st with
    | .retAddr q :: r => match zExA X q with
      | some (_, n, _) => if 0 < q then some (.int (Int32.ofNat n) :: r) else none
      | none => none
    | _ => none
  | i => match st with
    | .int _ :: .retAddr q :: _ => if 0 < q then zaget X i st else none
    | _ => none
def zFok (Ws : List Jvm.Cond) (own : String) (ix : Nat) (o n d : String) (U : State) (a : Array Value) : Prop := (Jvm.Cond.fieldLink own ix o n d).before a U = true ∨ ∃ host, (Jvm.Cond.fieldLinkNest own ix o n d host).before a U = true
/-- the old world's facts at a state -/
def zOldOK (X : zEx) (T : zTb) (sa : Nat → Nat) (A : Nat → Prop) (U : State) : Prop :=
  (∀ j q, zExS X j = some q → va_Z q.1 q.2.1 q.2.2.1 (zcv sa q.2.2.2) A U U.heap) ∧
  (∀ o j v f, zExO X o j = some v → zExF X j = some f → va_OF f.1 f.2.1 f.2.2 (zcv sa v) (sa o) A U U.heap) ∧
  (∀ q ty n f, zExA X q = some (ty, n, f) → va_T ty (sa q) n (fun j => zcv sa (f j)) A U U.heap) ∧
  (∀ k ix q C, zExR X k ix = some q → zTcn T k = some C → ∃ tx, vk_R C ix tx (sa q) U)
/-- the links that reach it -/
def zOldL (X : zEx) (T : zTb) (U : State) (a : Array Value) : Prop :=
  (∀ k ix j C q, zTcn T k = some C → zExSl X k ix = some j → zExS X j = some q → zFok [] C ix q.1 q.2.1 q.2.2.1 U a) ∧
  (∀ k ix j C, zTcn T k = some C → zExFl X k ix = some j → ∃ f, zExF X j = some f ∧ zFok [] C ix f.1 f.2.1 f.2.2 U a)
theorem zOldOK.stay {X : zEx} {T : zTb} {sa : Nat → Nat} {n0 : Nat} {s U : State} (h : zOldOK X T sa (fun q : Nat => n0 ≤ q) s) (hW : s.WarmedH U.vm) (hq : ∀ q : Nat, q < n0 → U.heap[q]? = s.heap[q]?) : zOldOK X T sa (fun q : Nat => n0 ≤ q) U := by
  have hq' : ∀ a : Nat, a < s.heap.size → ¬ (fun q : Nat => n0 ≤ q) a → U.heap[a]? = s.heap[a]? := fun a _ ha => hq a (Nat.lt_of_not_le ha)
  obtain ⟨h1, h2, h3, h4⟩ := h
  refine ⟨fun j q e => (va_Z.moved hW.alike (h1 j q e)).kept hq', fun o j v f e1 e2 => (va_OF.moved hW.alike (h2 o j v f e1 e2)).kept hq', fun q ty n f e => (va_T.moved hW.alike (h3 q ty n f e)).kept hq', fun k ix q C e1 e2 => ?_⟩
  obtain ⟨tx, h⟩ := h4 k ix q C e1 e2
  exact ⟨tx, vk_R.warm hW h⟩
set_option maxHeartbeats 4000000 in
theorem zext_ok {l : Launch} {T : zTb} {Ts Ns : List Jvm.Cond} {sa : Nat → Nat} {n0 : Nat} {zst : State → Prop} {X : zEx} (hX : zText T = zext X) (h1 : ∀ s, zst s → zOldOK X T sa (fun q : Nat => n0 ≤ q) s)
    (h2 : ∀ s a, zst s → (∀ w ∈ Ts ++ Ns, w.before a s = true) → zOldL X T s a) : zExtOK l T Ts Ns sa n0 zst := by
  intro p e R s m sargs below meth c H locs cells slots Q cc pc len k nL C ls ad st cs st' i hx hb hml hsize hC hown hts hz hn0 hS hRf hRl hRc hRs hdg hlen ht hF kk
  obtain ⟨o1, o2, o3, o4⟩ := h1 s hz
  obtain ⟨l1, l2⟩ := h2 s sargs hz hts
  rw [hX] at ht
  have hA : ∀ (j : Int32) (q : Nat) (r : List Value), st = .int j :: .retAddr q :: r → 0 < q → zaget X i st = some st' → W p l e R s m sargs below meth c H locs cells slots Q (F0 m pc ls cs) := by
    intro j q r e0 hq ha
    subst e0
    unfold zaget at ha
    dsimp only at ha
    split at ha
    · next ty n f hA =>
      split at ha
      · next hc =>
        cases ha
        obtain ⟨c1, c2, c3, c4, c5⟩ := hc
        obtain ⟨cv, cr, rfl, hv, hF1⟩ := zF_c hF
        obtain ⟨cw, cr2, rfl, hw, hF2⟩ := zF_c hF1
        cases (show cv = .int j from hv)
        obtain ⟨b, rfl, hbq⟩ := id hw
        rw [hbq hq]
        have hT := o3 q ty n f hA
        have hin : vp_in j n := fun z => by
          rcases z with z | z
          · exact c2 z
          · omega
        have hk := kk (zcv sa (f j.toNatClampNeg) :: cr2) ⟨zcv_ok c4, hF2⟩
        rw [hlen, c5] at hk hdg
        unfold zaty at c1
        split at c1
        · exact va_ti hx hb hT hS hin rfl hdg hk
        · exact va_tb hx hb hT hS hin rfl hdg hk
        · exact va_tz hx hb hT hS hin rfl hdg hk
        · exact va_tc hx hb hT hS hin rfl hdg hk
        · exact va_tl hx hb hT hS hin rfl hdg hk
        · exact vb_tq hx hb hT hS hin rfl hdg hk
        · cases c1
      · cases ha
    · cases ha
  unfold zext at ht
  split at ht
  · next ix =>
    have e0 : len = 2 := hlen
    subst e0
    split at ht
    · next q hq =>
      split at ht
      · next h0 =>
        cases ht
        obtain ⟨tx, hR⟩ := o4 k ix q C hq hC
        exact va_ldcS hx hb hown hR hdg (kk _ ⟨⟨_, rfl, fun _ => rfl⟩, hF⟩)
      · cases ht
    · cases ht
  · next ix =>
    have e0 : len = 3 := hlen
    subst e0
    split at ht
    · next j hj =>
      split at ht
      · next q hq =>
        split at ht
        · next hg =>
          cases ht
          rcases l1 k ix j C q hC hj hq with w | ⟨host, w⟩
          · exact va_gets hx hb (o1 j q hq) hS hown w (fun x h => h) hdg (kk _ ⟨zcv_ok hg, hF⟩)
          · exact va_getsN hx hb (o1 j q hq) hS hown w (fun x h => h) hdg (kk _ ⟨zcv_ok hg, hF⟩)
        · cases ht
      · cases ht
    · cases ht
  · next ix =>
    have e0 : len = 3 := hlen
    subst e0
    split at ht
    · next o r =>
      split at ht
      · next j hj =>
        split at ht
        · next v hv =>
          split at ht
          · next hc =>
            cases ht
            obtain ⟨f, hf, w⟩ := l2 k ix j C hC hj
            have hO := o2 o j v f hv hf
            obtain ⟨cw, cr, rfl, hw, hF2⟩ := zF_c hF
            obtain ⟨b, rfl, hbq⟩ := id hw
            rw [hbq hc.1]
            have hk := kk (zcv sa v :: cr) ⟨zcv_ok hc.2, hF2⟩
            rcases w with w | ⟨host, w⟩
            · exact vk_getf hx hb hO hS hown w (fun x h => h) hdg hk
            · obtain ⟨cf, k9, fi, f9, cell, g1, g2, g3, g4, g5, g6⟩ := hO.kept hS.2.1
              exact va_Wgetf hx hb hown w g1 g2 g3 g4 g5 rfl rfl hdg hk
          · cases ht
        · cases ht
      · cases ht
    · cases ht
  · split at ht
    · next q r =>
      have e0 : len = 1 := hlen
      subst e0
      split at ht
      · next n hq =>
        split at ht
        · next h0 =>
          cases ht
          obtain ⟨cw, cr, rfl, hw, hF2⟩ := zF_c hF
          obtain ⟨b, rfl, hbq⟩ := id hw
          rw [hbq h0]
          exact va_tlen hx hb (o3 q _ _ _ hq) hS rfl hdg (kk _ ⟨rfl, hF2⟩)
        · cases ht
      · cases ht
    · cases ht
  · split at ht
    · next j q r =>
      split at ht
      · next h0 => exact hA j q r rfl h0 ht
      · cases ht
    · cases ht
