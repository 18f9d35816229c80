section
/-! THE ABSTRACT MACHINE: one invocation's instructions over a heap of numbered cells (a reference is the cell's number). A reference to an object that was there before is 'retAddr k' (its address: sa k), an unknown one 'retAddr 0'. -/
abbrev zE : Type := (Nat × vp_A) ⊕ (Nat × List Value)
abbrev zH : Type := List zE
abbrev zL : Type := List (Nat × Value)
/-- local i -/
def zget (l : zL) (i : Nat) : Option Value := (l.find? (fun q => q.1 == i)).map (fun q => q.2)
def zst1 (l : zL) (i : Nat) (v : Value) : zL := (i, v) :: l.filter (fun q => !(q.1 == i) && !(q.1 + 1 == i && q.2.category == 2))
def zst2 (l : zL) (i : Nat) (v : Value) : zL := (i, v) :: l.filter (fun q => !(q.1 == i) && (!(q.1 == i + 1) && !(q.1 + 1 == i && q.2.category == 2)))
/-- what an abstract value says of the machine's -/
def zV (sa : Nat → Nat) (ad : List Nat) (v c : Value) : Prop := match v with
  | .ref i => ∃ a, ad[i]? = some a ∧ c = .ref a
  | .retAddr k => ∃ a, c = .ref a ∧ (0 < k → a = sa k)
  | .int x => c = .int x
  | .long x => c = .long x
  | .float x => c = .float x
  | .double x => c = .double x
  | .null => c = .null
def zF (sa : Nat → Nat) (ad : List Nat) : List Value → List Value → Prop
  | [], [] => True
  | v :: vs, c :: cs => zV sa ad v c ∧ zF sa ad vs cs
  | _, _ => False
def zLR (sa : Nat → Nat) (ad : List Nat) : zL → zL → Prop
  | [], [] => True
  | q :: l, r :: k => q.1 = r.1 ∧ zV sa ad q.2 r.2 ∧ zLR sa ad l k
  | _, _ => False
theorem zV.cat {sa : Nat → Nat} {ad : List Nat} {v c : Value} (h : zV sa ad v c) : c.category = v.category := by
  cases v <;> simp only [zV] at h <;> first | (subst h; rfl) | (obtain ⟨a, -, rfl⟩ := h; rfl) | (obtain ⟨a, rfl, -⟩ := h; rfl)
theorem zget_at {sa : Nat → Nat} {ad : List Nat} {ls : Array Slot} {nL : Nat} : ∀ {l k : zL}, zLR sa ad l k → lv_has ls nL k → ∀ {i : Nat} {v : Value}, zget l i = some v → ∃ (j : Nat) (c : Value), k[j]? = some (i, c) ∧ zV sa ad v c := by
  intro l
  induction l with
  | nil => intro k hk hl i v h; simp [zget] at h
  | cons q l ih =>
    intro k hk hl i v h
    cases k with
    | nil => exact absurd hk (by simp [zLR])
    | cons r k =>
      obtain ⟨h1, h2, h3⟩ := hk
      by_cases e : q.1 = i
      · have hq : zget (q :: l) i = some q.2 := by simp [zget, List.find?_cons, e]
        rw [hq] at h
        cases h
        refine ⟨0, r.2, ?_, h2⟩
        show some r = some (i, r.2)
        rw [← e, h1]
      · have hq : zget (q :: l) i = zget l i := by
          have : (q.1 == i) = false := by simpa using e
          simp [zget, List.find?_cons, this]
        rw [hq] at h
        obtain ⟨j, c, e1, e2⟩ := ih h3 ⟨hl.1, hl.2.1, fun q hq => hl.2.2 q (List.mem_cons_of_mem _ hq)⟩ h
        exact ⟨j + 1, c, e1, e2⟩
theorem zLR.filter {sa : Nat → Nat} {ad : List Nat} (f : Nat → Nat → Bool) : ∀ {l k : zL}, zLR sa ad l k → zLR sa ad (l.filter (fun q => f q.1 q.2.category)) (k.filter (fun q => f q.1 q.2.category)) := by
  intro l
  induction l with
  | nil => intro k hk; cases k with
    | nil => exact hk
    | cons r k => exact absurd hk (by simp [zLR])
  | cons q l ih =>
    intro k hk
    cases k with
    | nil => exact absurd hk (by simp [zLR])
    | cons r k =>
      obtain ⟨h1, h2, h3⟩ := hk
      have hc := h2.cat
      have ih := ih h3
      cases hb : f q.1 q.2.category with
      | true =>
        have hb' : f r.1 r.2.category = true := by rw [← h1, hc]; exact hb
        rw [List.filter_cons_of_pos (by simpa using hb), List.filter_cons_of_pos (by simpa using hb')]
        exact ⟨h1, h2, ih⟩
      | false =>
        have hb' : f r.1 r.2.category = false := by rw [← h1, hc]; exact hb
        rw [List.filter_cons_of_neg (by simp [hb]), List.filter_cons_of_neg (by simp [hb'])]
        exact ih
theorem zst1_R {sa : Nat → Nat} {ad : List Nat} {l k : zL} (h : zLR sa ad l k) {i : Nat} {v c : Value} (hv : zV sa ad v c) : zLR sa ad (zst1 l i v) ((i, c) :: k.filter (fun q => !(q.1 == i) && !(q.1 + 1 == i && q.2.category == 2))) :=
  ⟨rfl, hv, zLR.filter (fun a b => !(a == i) && !(a + 1 == i && b == 2)) h⟩
theorem zst2_R {sa : Nat → Nat} {ad : List Nat} {l k : zL} (h : zLR sa ad l k) {i : Nat} {v c : Value} (hv : zV sa ad v c) : zLR sa ad (zst2 l i v) ((i, c) :: k.filter (fun q => !(q.1 == i) && (!(q.1 == i + 1) && !(q.1 + 1 == i && q.2.category == 2)))) :=
  ⟨rfl, hv, zLR.filter (fun a b => !(a == i) && (!(a == i + 1) && !(a + 1 == i && b == 2))) h⟩
/-! instructions that go on behind themselves and look at no cell -/
def zi1 (st : List Value) (f : Int32 → Option Value) : Option (List Value) := match st with
  | .int x :: r => (f x).map (· :: r)
  | _ => none
def zi2 (st : List Value) (f : Int32 → Int32 → Option Value) : Option (List Value) := match st with
  | .int y :: .int x :: r => (f x y).map (· :: r)
  | _ => none
def zl1 (st : List Value) (f : Int64 → Option Value) : Option (List Value) := match st with
  | .long x :: r => (f x).map (· :: r)
  | _ => none
def zl2 (st : List Value) (f : Int64 → Int64 → Option Value) : Option (List Value) := match st with
  | .long y :: .long x :: r => (f x y).map (· :: r)
  | _ => none
def zls (st : List Value) (f : Int64 → Int32 → Option Value) : Option (List Value) := match st with
  | .int y :: .long x :: r => (f x y).map (· :: r)
  | _ => none
def zd1 (st : List Value) (f : UInt64 → Option Value) : Option (List Value) := match st with
  | .double x :: r => (f x).map (· :: r)
  | _ => none
def zd2 (st : List Value) (f : UInt64 → UInt64 → Option Value) : Option (List Value) := match st with
  | .double y :: .double x :: r => (f x y).map (· :: r)
  | _ => none
def zldI (l : zL) (i : Nat) (st : List Value) : Option (zL × List Value) := match zget l i with
  | some (.int x) => some (l, .int x :: st)
  | _ => none
def zldL (l : zL) (i : Nat) (st : List Value) : Option (zL × List Value) := match zget l i with
  | some (.long x) => some (l, .long x :: st)
  | _ => none
def zldD (l : zL) (i : Nat) (st : List Value) : Option (zL × List Value) := match zget l i with
  | some (.double x) => some (l, .double x :: st)
  | _ => none
def zldA (l : zL) (i : Nat) (st : List Value) : Option (zL × List Value) := match zget l i with
  | some (.ref x) => some (l, .ref x :: st)
  | some (.retAddr x) => some (l, .retAddr x :: st)
  | some .null => some (l, .null :: st)
  | _ => none
def zstI (nL : Nat) (l : zL) (i : Nat) (st : List Value) : Option (zL × List Value) := match st with
  | .int x :: r => if i < nL then some (zst1 l i (.int x), r) else none
  | _ => none
def zstL (nL : Nat) (l : zL) (i : Nat) (st : List Value) : Option (zL × List Value) := match st with
  | .long x :: r => if i + 1 < nL then some (zst2 l i (.long x), r) else none
  | _ => none
def zstD (nL : Nat) (l : zL) (i : Nat) (st : List Value) : Option (zL × List Value) := match st with
  | .double x :: r => if i + 1 < nL then some (zst2 l i (.double x), r) else none
  | _ => none
def zstA (nL : Nat) (l : zL) (i : Nat) (st : List Value) : Option (zL × List Value) := match st with
  | .ref x :: r => if i < nL then some (zst1 l i (.ref x), r) else none
  | .retAddr x :: r => if i < nL then some (zst1 l i (.retAddr x), r) else none
  | .null :: r => if i < nL then some (zst1 l i .null, r) else none
  | _ => none
def zinc (nL : Nat) (l : zL) (i : Nat) (n : Int) (st : List Value) : Option (zL × List Value) := match zget l i with
  | some (.int x) => if i < nL then some (zst1 l i (.int (x + Int32.ofInt n)), st) else none
  | _ => none
def zdup (st : List Value) : Option (List Value) := match st with
  | v :: r => if v.category = 1 then some (v :: v :: r) else none
  | _ => none
def zpop (st : List Value) : Option (List Value) := match st with
  | v :: r => if v.category = 1 then some r else none
  | _ => none
def zdupx1 (st : List Value) : Option (List Value) := match st with
  | v :: w :: r => if v.category = 1 ∧ w.category = 1 then some (v :: w :: v :: r) else none
  | _ => none
def zdupx2 (st : List Value) : Option (List Value) := match st with
  | v :: w :: u :: r => if v.category = 1 ∧ w.category = 1 ∧ u.category = 1 then some (v :: w :: u :: v :: r) else none
  | _ => none
def zdup2 (st : List Value) : Option (List Value) := match st with
  | v :: w :: r => if v.category = 1 ∧ w.category = 1 then some (v :: w :: v :: w :: r) else none
  | _ => none
/-- a double that is a number, or infinite -/
def zfin (x : UInt64) : Option Value := if x &&& 0x7fffffffffffffff ≤ 0x7ff0000000000000 then some (.double x) else none
end
section
/-! the instructions of a method that go on behind themselves, and what they are worth over the machine -/
def zlen : Instr → Nat
  | .bipush _ => 2
  | .sipush _ => 3
  | .iload _ => 2
  | .lload _ => 2
  | .dload _ => 2
  | .aload _ => 2
  | .istore _ => 2
  | .lstore _ => 2
  | .dstore _ => 2
  | .astore _ => 2
  | .iinc _ _ => 3
  | .ldc _ => 2
  | .ldc_w _ => 3
  | .ldc2_w _ => 3
  | .goto _ => 3
  | .ifCond _ _ => 3
  | .if_icmp _ _ => 3
  | .getfield _ => 3
  | .putfield _ => 3
  | .getstatic _ => 3
  | .invokevirtual _ => 3
  | .invokestatic _ => 3
  | .invokespecial _ => 3
  | .new _ => 3
  | .newarray _ => 2
  | _ => 1
def zpure (nL : Nat) (i : Instr) (l : zL) (st : List Value) : Option (zL × List Value) := match i with
  | .iconst n => some (l, .int (Int32.ofInt n) :: st)
  | .bipush n => some (l, .int (Int8.ofInt n).toInt32 :: st)
  | .sipush n => some (l, .int (Int16.ofInt n).toInt32 :: st)
  | .lconst n => some (l, .long (Int64.ofNat (n : Nat)) :: st)
  | .dconst n => if n = 0 then some (l, .double FP.dconst0 :: st) else none
  | .iload_n k => zldI l k st
  | .iload k => zldI l k st
  | .lload_n k => zldL l k st
  | .lload k => zldL l k st
  | .dload_n k => zldD l k st
  | .dload k => zldD l k st
  | .aload_n k => zldA l k st
  | .aload k => zldA l k st
  | .istore_n k => zstI nL l k st
  | .istore k => zstI nL l k st
  | .lstore_n k => zstL nL l k st
  | .lstore k => zstL nL l k st
  | .dstore_n k => zstD nL l k st
  | .dstore k => zstD nL l k st
  | .astore_n k => zstA nL l k st
  | .astore k => zstA nL l k st
  | .iinc k n => zinc nL l k n st
  | .iadd => (zi2 st (fun x y => some (.int (x + y)))).map (fun r => (l, r))
  | .isub => (zi2 st (fun x y => some (.int (x - y)))).map (fun r => (l, r))
  | .imul => (zi2 st (fun x y => some (.int (x * y)))).map (fun r => (l, r))
  | .iand => (zi2 st (fun x y => some (.int (x &&& y)))).map (fun r => (l, r))
  | .ior => (zi2 st (fun x y => some (.int (x ||| y)))).map (fun r => (l, r))
  | .ixor => (zi2 st (fun x y => some (.int (x ^^^ y)))).map (fun r => (l, r))
  | .ishl => (zi2 st (fun x y => some (.int (x <<< (y &&& 31))))).map (fun r => (l, r))
  | .ishr => (zi2 st (fun x y => some (.int (x >>> (y &&& 31))))).map (fun r => (l, r))
  | .iushr => (zi2 st (fun x y => some (.int (x.toUInt32 >>> (y.toUInt32 &&& Int32.toUInt32 31)).toInt32))).map (fun r => (l, r))
  | .ineg => (zi1 st (fun x => some (.int (-x)))).map (fun r => (l, r))
  | .i2l => (zi1 st (fun x => some (.long x.toInt64))).map (fun r => (l, r))
  | .i2d => (zi1 st (fun x => some (.double (FP.i2d x)))).map (fun r => (l, r))
  | .i2c => (zi1 st (fun x => some (.int (x.toUInt32 % 65536).toInt32))).map (fun r => (l, r))
  | .l2i => (zl1 st (fun x => some (.int x.toInt32))).map (fun r => (l, r))
  | .l2d => (zl1 st (fun x => some (.double (FP.l2d x)))).map (fun r => (l, r))
  | .ladd => (zl2 st (fun x y => some (.long (x + y)))).map (fun r => (l, r))
  | .land => (zl2 st (fun x y => some (.long (x &&& y)))).map (fun r => (l, r))
  | .lor => (zl2 st (fun x y => some (.long (x ||| y)))).map (fun r => (l, r))
  | .lcmp => (zl2 st (fun x y => some (.int (lg_cmp x y)))).map (fun r => (l, r))
  | .lshl => (zls st (fun x y => some (.long (x <<< (y.toInt64 &&& 63))))).map (fun r => (l, r))
  | .lshr => (zls st (fun x y => some (.long (x >>> (y.toInt64 &&& 63))))).map (fun r => (l, r))
  | .lushr => (zls st (fun x y => some (.long (x.toUInt64 >>> (y.toInt64.toUInt64 &&& Int64.toUInt64 63)).toInt64))).map (fun r => (l, r))
  | .dneg => (zd1 st (fun x => some (.double (FP.dneg x)))).map (fun r => (l, r))
  | .dmul => (zd2 st (fun x y => zfin (FP.dmul x y))).map (fun r => (l, r))
  | .ddiv => (zd2 st (fun x y => zfin (FP.ddiv x y))).map (fun r => (l, r))
  | .dcmp op => (zd2 st (fun x y => some (.int (Op.cmpValue (FP.dcmp x y) op)))).map (fun r => (l, r))
  | .dup => (zdup st).map (fun r => (l, r))
  | .pop => (zpop st).map (fun r => (l, r))
  | .dup_x1 => (zdupx1 st).map (fun r => (l, r))
  | .dup_x2 => (zdupx2 st).map (fun r => (l, r))
  | .dup2 => (zdup2 st).map (fun r => (l, r))
  | _ => none
theorem zF_i {sa : Nat → Nat} {ad : List Nat} {x : Int32} {r cs : List Value} (h : zF sa ad (.int x :: r) cs) : ∃ cr, cs = .int x :: cr ∧ zF sa ad r cr := by
  cases cs with
  | nil => exact absurd h (by simp [zF])
  | cons c cs =>
    obtain ⟨h1, h2⟩ := h
    cases (show c = .int x from h1)
    exact ⟨cs, rfl, h2⟩
theorem zF_l {sa : Nat → Nat} {ad : List Nat} {x : Int64} {r cs : List Value} (h : zF sa ad (.long x :: r) cs) : ∃ cr, cs = .long x :: cr ∧ zF sa ad r cr := by
  cases cs with
  | nil => exact absurd h (by simp [zF])
  | cons c cs =>
    obtain ⟨h1, h2⟩ := h
    cases (show c = .long x from h1)
    exact ⟨cs, rfl, h2⟩
theorem zF_d {sa : Nat → Nat} {ad : List Nat} {x : UInt64} {r cs : List Value} (h : zF sa ad (.double x :: r) cs) : ∃ cr, cs = .double x :: cr ∧ zF sa ad r cr := by
  cases cs with
  | nil => exact absurd h (by simp [zF])
  | cons c cs =>
    obtain ⟨h1, h2⟩ := h
    cases (show c = .double x from h1)
    exact ⟨cs, rfl, h2⟩
theorem zF_c {sa : Nat → Nat} {ad : List Nat} {v : Value} {r cs : List Value} (h : zF sa ad (v :: r) cs) : ∃ c cr, cs = c :: cr ∧ zV sa ad v c ∧ zF sa ad r cr := by
  cases cs with
  | nil => exact absurd h (by simp [zF])
  | cons c cs => exact ⟨c, cs, rfl, h.1, h.2⟩
theorem zF_n {sa : Nat → Nat} {ad : List Nat} {cs : List Value} (h : zF sa ad [] cs) : cs = [] := by
  cases cs with
  | nil => rfl
  | cons c cs => exact absurd h (by simp [zF])
theorem zi1_inv {sa : Nat → Nat} {ad : List Nat} {st cs st' : List Value} {f : Int32 → Option Value} (h : zi1 st f = some st') (hS : zF sa ad st cs) : ∃ x v r cr, st' = v :: r ∧ f x = some v ∧ cs = .int x :: cr ∧ zF sa ad r cr := by
  unfold zi1 at h
  split at h
  next x r =>
    obtain ⟨cr, rfl, hS2⟩ := zF_i hS
    cases hf : f x with
    | none => rw [hf] at h; cases h
    | some v =>
      rw [hf] at h
      cases h
      exact ⟨_, v, _, cr, rfl, hf, rfl, hS2⟩
  next => cases h
theorem zl1_inv {sa : Nat → Nat} {ad : List Nat} {st cs st' : List Value} {f : Int64 → Option Value} (h : zl1 st f = some st') (hS : zF sa ad st cs) : ∃ x v r cr, st' = v :: r ∧ f x = some v ∧ cs = .long x :: cr ∧ zF sa ad r cr := by
  unfold zl1 at h
  split at h
  next x r =>
    obtain ⟨cr, rfl, hS2⟩ := zF_l hS
    cases hf : f x with
    | none => rw [hf] at h; cases h
    | some v =>
      rw [hf] at h
      cases h
      exact ⟨_, v, _, cr, rfl, hf, rfl, hS2⟩
  next => cases h
theorem zd1_inv {sa : Nat → Nat} {ad : List Nat} {st cs st' : List Value} {f : UInt64 → Option Value} (h : zd1 st f = some st') (hS : zF sa ad st cs) : ∃ x v r cr, st' = v :: r ∧ f x = some v ∧ cs = .double x :: cr ∧ zF sa ad r cr := by
  unfold zd1 at h
  split at h
  next x r =>
    obtain ⟨cr, rfl, hS2⟩ := zF_d hS
    cases hf : f x with
    | none => rw [hf] at h; cases h
    | some v =>
      rw [hf] at h
      cases h
      exact ⟨_, v, _, cr, rfl, hf, rfl, hS2⟩
  next => cases h
theorem zi2_inv {sa : Nat → Nat} {ad : List Nat} {st cs st' : List Value} {f : Int32 → Int32 → Option Value} (h : zi2 st f = some st') (hS : zF sa ad st cs) : ∃ x y v r cr, st' = v :: r ∧ f x y = some v ∧ cs = .int y :: .int x :: cr ∧ zF sa ad r cr := by
  unfold zi2 at h
  split at h
  next y x r =>
    obtain ⟨cr0, rfl, hS1⟩ := zF_i hS
    obtain ⟨cr, rfl, hS2⟩ := zF_i hS1
    cases hf : f x y with
    | none => rw [hf] at h; cases h
    | some v =>
      rw [hf] at h
      cases h
      exact ⟨_, _, v, _, cr, rfl, hf, rfl, hS2⟩
  next => cases h
theorem zl2_inv {sa : Nat → Nat} {ad : List Nat} {st cs st' : List Value} {f : Int64 → Int64 → Option Value} (h : zl2 st f = some st') (hS : zF sa ad st cs) : ∃ x y v r cr, st' = v :: r ∧ f x y = some v ∧ cs = .long y :: .long x :: cr ∧ zF sa ad r cr := by
  unfold zl2 at h
  split at h
  next y x r =>
    obtain ⟨cr0, rfl, hS1⟩ := zF_l hS
    obtain ⟨cr, rfl, hS2⟩ := zF_l hS1
    cases hf : f x y with
    | none => rw [hf] at h; cases h
    | some v =>
      rw [hf] at h
      cases h
      exact ⟨_, _, v, _, cr, rfl, hf, rfl, hS2⟩
  next => cases h
theorem zd2_inv {sa : Nat → Nat} {ad : List Nat} {st cs st' : List Value} {f : UInt64 → UInt64 → Option Value} (h : zd2 st f = some st') (hS : zF sa ad st cs) : ∃ x y v r cr, st' = v :: r ∧ f x y = some v ∧ cs = .double y :: .double x :: cr ∧ zF sa ad r cr := by
  unfold zd2 at h
  split at h
  next y x r =>
    obtain ⟨cr0, rfl, hS1⟩ := zF_d hS
    obtain ⟨cr, rfl, hS2⟩ := zF_d hS1
    cases hf : f x y with
    | none => rw [hf] at h; cases h
    | some v =>
      rw [hf] at h
      cases h
      exact ⟨_, _, v, _, cr, rfl, hf, rfl, hS2⟩
  next => cases h
theorem zls_inv {sa : Nat → Nat} {ad : List Nat} {st cs st' : List Value} {f : Int64 → Int32 → Option Value} (h : zls st f = some st') (hS : zF sa ad st cs) : ∃ x y v r cr, st' = v :: r ∧ f x y = some v ∧ cs = .int y :: .long x :: cr ∧ zF sa ad r cr := by
  unfold zls at h
  split at h
  next y x r =>
    obtain ⟨cr0, rfl, hS1⟩ := zF_i hS
    obtain ⟨cr, rfl, hS2⟩ := zF_l hS1
    cases hf : f x y with
    | none => rw [hf] at h; cases h
    | some v =>
      rw [hf] at h
      cases h
      exact ⟨_, _, v, _, cr, rfl, hf, rfl, hS2⟩
  next => cases h
section ZP
variable {p : Program} {l : Launch} {e : Env} {R : Room} {s : State} {m : MethodId} {args : Array Value} {below : List Frame} {meth : Method} {c : Code} {H : Heap} {locs : List Loc} {cells slots : Nat} {Q : State → Prop}
variable {cc : ByteArray} {pc nL len : Nat} {ls : Array Slot} {sa : Nat → Nat} {ad : List Nat} {a k a' : zL} {st cs st' : List Value}
theorem zpop_v {v w : Value} {r x y : List Value} {b b' : zL} (h : (some (v :: r)).map (fun q => (b, q)) = some (b', x)) : b = b' ∧ x = v :: r := by cases h; exact ⟨rfl, rfl⟩
set_option maxHeartbeats 4000000 in
theorem zpure_ok (hx : p.tables.exec = Jvm.exec) (hb : c.code = cc) {i : Instr} (hdg : decode cc pc = .ok (i, len)) (hlen : len = zlen i) (hL : zLR sa ad a k) (hl : lv_has ls nL k) (hS : zF sa ad st cs)
    (h : zpure nL i a st = some (a', st')) (kk : ∀ (ls' : Array Slot) (k' : zL) (cs' : List Value), zLR sa ad a' k' → lv_has ls' nL k' → zF sa ad st' cs' → W p l e R s m args below meth c H locs cells slots Q (F0 m (pc + len) ls' cs')) :
    W p l e R s m args below meth c H locs cells slots Q (F0 m pc ls cs) := by
  subst hlen
  unfold zpure at h
  split at h
  · cases h
    exact lv_iconst hx hb hdg rfl (kk _ _ _ hL hl ⟨rfl, hS⟩)
  · cases h
    exact lv_bipush hx hb hdg rfl (kk _ _ _ hL hl ⟨rfl, hS⟩)
  · cases h
    exact lv_sipush hx hb hdg rfl (kk _ _ _ hL hl ⟨rfl, hS⟩)
  · cases h
    exact lv_lconst hx hb hdg rfl (kk _ _ _ hL hl ⟨rfl, hS⟩)
  · split at h
    · next e => subst e; cases h; exact lv_dconst0 hx hb hdg (kk _ _ _ hL hl ⟨rfl, hS⟩)
    · cases h
  · unfold zldI at h
    split at h
    · next x hg =>
      cases h
      obtain ⟨j, cv, hj, hv⟩ := zget_at hL hl hg
      cases hv
      exact lv_iload_n hx hb hdg rfl (lv_at hl j hj) (kk _ _ _ hL hl ⟨rfl, hS⟩)
    · cases h
  · unfold zldI at h
    split at h
    · next x hg =>
      cases h
      obtain ⟨j, cv, hj, hv⟩ := zget_at hL hl hg
      cases hv
      exact lv_iload hx hb hdg (lv_at hl j hj) (kk _ _ _ hL hl ⟨rfl, hS⟩)
    · cases h
  · unfold zldL at h
    split at h
    · next x hg =>
      cases h
      obtain ⟨j, cv, hj, hv⟩ := zget_at hL hl hg
      cases hv
      exact lv_lload_n hx hb hdg rfl (lv_at hl j hj) (kk _ _ _ hL hl ⟨rfl, hS⟩)
    · cases h
  · unfold zldL at h
    split at h
    · next x hg =>
      cases h
      obtain ⟨j, cv, hj, hv⟩ := zget_at hL hl hg
      cases hv
      exact lv_lload hx hb hdg (lv_at hl j hj) (kk _ _ _ hL hl ⟨rfl, hS⟩)
    · cases h
  · unfold zldD at h
    split at h
    · next x hg =>
      cases h
      obtain ⟨j, cv, hj, hv⟩ := zget_at hL hl hg
      cases hv
      exact lv_dload_n hx hb hdg rfl (lv_at hl j hj) (kk _ _ _ hL hl ⟨rfl, hS⟩)
    · cases h
  · unfold zldD at h
    split at h
    · next x hg =>
      cases h
      obtain ⟨j, cv, hj, hv⟩ := zget_at hL hl hg
      cases hv
      exact lv_dload hx hb hdg (lv_at hl j hj) (kk _ _ _ hL hl ⟨rfl, hS⟩)
    · cases h
  · unfold zldA at h
    split at h
    · next x hg =>
      cases h
      obtain ⟨j, cv, hj, hv⟩ := zget_at hL hl hg
      obtain ⟨b, hb1, rfl⟩ := id hv
      exact lv_aload_n hx hb hdg rfl (lv_at hl j hj) (kk _ _ _ hL hl ⟨hv, hS⟩)
    · next x hg =>
      cases h
      obtain ⟨j, cv, hj, hv⟩ := zget_at hL hl hg
      obtain ⟨b, rfl, -⟩ := id hv
      exact lv_aload_n hx hb hdg rfl (lv_at hl j hj) (kk _ _ _ hL hl ⟨hv, hS⟩)
    · next hg =>
      cases h
      obtain ⟨j, cv, hj, hv⟩ := zget_at hL hl hg
      cases hv
      exact lv_aload_nN hx hb hdg rfl (lv_at hl j hj) (kk _ _ _ hL hl ⟨rfl, hS⟩)
    · cases h
  · unfold zldA at h
    split at h
    · next x hg =>
      cases h
      obtain ⟨j, cv, hj, hv⟩ := zget_at hL hl hg
      obtain ⟨b, hb1, rfl⟩ := id hv
      exact lv_aload hx hb hdg (lv_at hl j hj) (kk _ _ _ hL hl ⟨hv, hS⟩)
    · next x hg =>
      cases h
      obtain ⟨j, cv, hj, hv⟩ := zget_at hL hl hg
      obtain ⟨b, rfl, -⟩ := id hv
      exact lv_aload hx hb hdg (lv_at hl j hj) (kk _ _ _ hL hl ⟨hv, hS⟩)
    · next hg =>
      cases h
      obtain ⟨j, cv, hj, hv⟩ := zget_at hL hl hg
      cases hv
      exact lv_aloadN hx hb hdg (lv_at hl j hj) (kk _ _ _ hL hl ⟨rfl, hS⟩)
    · cases h
  · unfold zstI at h
    split at h
    · split at h
      · next hn =>
        cases h
        obtain ⟨cr, rfl, hS1⟩ := zF_i hS
        exact lv_istore_n hx hb hdg rfl hl hn rfl (fun ls' hl' => kk _ _ _ (zst1_R hL rfl) hl' hS1)
      · cases h
    · cases h
  · unfold zstI at h
    split at h
    · split at h
      · next hn =>
        cases h
        obtain ⟨cr, rfl, hS2⟩ := zF_i hS
        exact lv_istore hx hb hdg hl hn rfl (fun ls' hl' => kk _ _ _ (zst1_R hL rfl) hl' hS2)
      · cases h
    · cases h
  · unfold zstL at h
    split at h
    · split at h
      · next hn =>
        cases h
        obtain ⟨cr, rfl, hS3⟩ := zF_l hS
        exact lv_lstore_n hx hb hdg rfl hl hn rfl (fun ls' hl' => kk _ _ _ (zst2_R hL rfl) hl' hS3)
      · cases h
    · cases h
  · unfold zstL at h
    split at h
    · split at h
      · next hn =>
        cases h
        obtain ⟨cr, rfl, hS4⟩ := zF_l hS
        exact lv_lstore hx hb hdg hl hn rfl (fun ls' hl' => kk _ _ _ (zst2_R hL rfl) hl' hS4)
      · cases h
    · cases h
  · unfold zstD at h
    split at h
    · split at h
      · next hn =>
        cases h
        obtain ⟨cr, rfl, hS5⟩ := zF_d hS
        exact lv_dstore_n hx hb hdg rfl hl hn rfl (fun ls' hl' => kk _ _ _ (zst2_R hL rfl) hl' hS5)
      · cases h
    · cases h
  · unfold zstD at h
    split at h
    · split at h
      · next hn =>
        cases h
        obtain ⟨cr, rfl, hS6⟩ := zF_d hS
        exact lv_dstore hx hb hdg hl hn rfl (fun ls' hl' => kk _ _ _ (zst2_R hL rfl) hl' hS6)
      · cases h
    · cases h
  · unfold zstA at h
    split at h
    · split at h
      · next hn =>
        cases h
        obtain ⟨cv, cr, rfl, hv, hS7⟩ := zF_c hS
        obtain ⟨b, hb1, rfl⟩ := id hv
        exact lv_astore_n hx hb hdg rfl hl hn rfl (fun ls' hl' => kk _ _ _ (zst1_R hL hv) hl' hS7)
      · cases h
    · split at h
      · next hn =>
        cases h
        obtain ⟨cv, cr, rfl, hv, hS8⟩ := zF_c hS
        obtain ⟨b, rfl, -⟩ := id hv
        exact lv_astore_n hx hb hdg rfl hl hn rfl (fun ls' hl' => kk _ _ _ (zst1_R hL hv) hl' hS8)
      · cases h
    · split at h
      · next hn =>
        cases h
        obtain ⟨cv, cr, rfl, hv, hSn⟩ := zF_c hS
        cases hv
        exact lv_astore_nN hx hb hdg rfl hl hn rfl (fun ls' hl' => kk _ _ _ (zst1_R hL rfl) hl' hSn)
      · cases h
    · cases h
  · unfold zstA at h
    split at h
    · split at h
      · next hn =>
        cases h
        obtain ⟨cv, cr, rfl, hv, hS9⟩ := zF_c hS
        obtain ⟨b, hb1, rfl⟩ := id hv
        exact lv_astore hx hb hdg hl hn rfl (fun ls' hl' => kk _ _ _ (zst1_R hL hv) hl' hS9)
      · cases h
    · split at h
      · next hn =>
        cases h
        obtain ⟨cv, cr, rfl, hv, hS10⟩ := zF_c hS
        obtain ⟨b, rfl, -⟩ := id hv
        exact lv_astore hx hb hdg hl hn rfl (fun ls' hl' => kk _ _ _ (zst1_R hL hv) hl' hS10)
      · cases h
    · split at h
      · next hn =>
        cases h
        obtain ⟨cv, cr, rfl, hv, hSn⟩ := zF_c hS
        cases hv
        exact lv_astoreN hx hb hdg hl hn rfl (fun ls' hl' => kk _ _ _ (zst1_R hL rfl) hl' hSn)
      · cases h
    · cases h
  · unfold zinc at h
    split at h
    · next x hg =>
      split at h
      · next hn =>
        cases h
        obtain ⟨j, cv, hj, hv⟩ := zget_at hL hl hg
        cases hv
        exact lv_iinc hx hb hdg hl hj rfl hn rfl (fun ls' hl' => kk _ _ _ (zst1_R hL rfl) hl' hS)
      · cases h
    · cases h
  · obtain ⟨r, hr, e⟩ := Option.map_eq_some_iff.mp h
    cases e
    obtain ⟨x, y, v, r, cr, rfl, hf, rfl, hS11⟩ := zi2_inv hr hS
    cases hf
    exact lv_iadd hx hb hdg (kk _ _ _ hL hl ⟨rfl, hS11⟩)
  · obtain ⟨r, hr, e⟩ := Option.map_eq_some_iff.mp h
    cases e
    obtain ⟨x, y, v, r, cr, rfl, hf, rfl, hS12⟩ := zi2_inv hr hS
    cases hf
    exact lv_isub hx hb hdg (kk _ _ _ hL hl ⟨rfl, hS12⟩)
  · obtain ⟨r, hr, e⟩ := Option.map_eq_some_iff.mp h
    cases e
    obtain ⟨x, y, v, r, cr, rfl, hf, rfl, hS13⟩ := zi2_inv hr hS
    cases hf
    exact lv_imul hx hb hdg (kk _ _ _ hL hl ⟨rfl, hS13⟩)
  · obtain ⟨r, hr, e⟩ := Option.map_eq_some_iff.mp h
    cases e
    obtain ⟨x, y, v, r, cr, rfl, hf, rfl, hS14⟩ := zi2_inv hr hS
    cases hf
    exact lv_iand hx hb hdg (kk _ _ _ hL hl ⟨rfl, hS14⟩)
  · obtain ⟨r, hr, e⟩ := Option.map_eq_some_iff.mp h
    cases e
    obtain ⟨x, y, v, r, cr, rfl, hf, rfl, hS15⟩ := zi2_inv hr hS
    cases hf
    exact lv_ior hx hb hdg (kk _ _ _ hL hl ⟨rfl, hS15⟩)
  · obtain ⟨r, hr, e⟩ := Option.map_eq_some_iff.mp h
    cases e
    obtain ⟨x, y, v, r, cr, rfl, hf, rfl, hS16⟩ := zi2_inv hr hS
    cases hf
    exact lv_ixor hx hb hdg (kk _ _ _ hL hl ⟨rfl, hS16⟩)
  · obtain ⟨r, hr, e⟩ := Option.map_eq_some_iff.mp h
    cases e
    obtain ⟨x, y, v, r, cr, rfl, hf, rfl, hS17⟩ := zi2_inv hr hS
    cases hf
    exact lv_ishl hx hb hdg (kk _ _ _ hL hl ⟨rfl, hS17⟩)
  · obtain ⟨r, hr, e⟩ := Option.map_eq_some_iff.mp h
    cases e
    obtain ⟨x, y, v, r, cr, rfl, hf, rfl, hS18⟩ := zi2_inv hr hS
    cases hf
    exact lv_ishr hx hb hdg (kk _ _ _ hL hl ⟨rfl, hS18⟩)
  · obtain ⟨r, hr, e⟩ := Option.map_eq_some_iff.mp h
    cases e
    obtain ⟨x, y, v, r, cr, rfl, hf, rfl, hS19⟩ := zi2_inv hr hS
    cases hf
    exact lv_iushr hx hb hdg rfl (kk _ _ _ hL hl ⟨rfl, hS19⟩)
  · obtain ⟨r, hr, e⟩ := Option.map_eq_some_iff.mp h
    cases e
    obtain ⟨x, v, r, cr, rfl, hf, rfl, hS20⟩ := zi1_inv hr hS
    cases hf
    exact lv_ineg hx hb hdg (kk _ _ _ hL hl ⟨rfl, hS20⟩)
  · obtain ⟨r, hr, e⟩ := Option.map_eq_some_iff.mp h
    cases e
    obtain ⟨x, v, r, cr, rfl, hf, rfl, hS21⟩ := zi1_inv hr hS
    cases hf
    exact lv_i2l hx hb hdg rfl (kk _ _ _ hL hl ⟨rfl, hS21⟩)
  · obtain ⟨r, hr, e⟩ := Option.map_eq_some_iff.mp h
    cases e
    obtain ⟨x, v, r, cr, rfl, hf, rfl, hS22⟩ := zi1_inv hr hS
    cases hf
    exact lv_i2d hx hb hdg (kk _ _ _ hL hl ⟨rfl, hS22⟩)
  · obtain ⟨r, hr, e⟩ := Option.map_eq_some_iff.mp h
    cases e
    obtain ⟨x, v, r, cr, rfl, hf, rfl, hS22⟩ := zi1_inv hr hS
    cases hf
    exact lv_i2c hx hb hdg rfl (kk _ _ _ hL hl ⟨rfl, hS22⟩)
  · obtain ⟨r, hr, e⟩ := Option.map_eq_some_iff.mp h
    cases e
    obtain ⟨x, v, r, cr, rfl, hf, rfl, hS23⟩ := zl1_inv hr hS
    cases hf
    exact lv_l2i hx hb hdg rfl (kk _ _ _ hL hl ⟨rfl, hS23⟩)
  · obtain ⟨r, hr, e⟩ := Option.map_eq_some_iff.mp h
    cases e
    obtain ⟨x, v, r, cr, rfl, hf, rfl, hS24⟩ := zl1_inv hr hS
    cases hf
    exact lv_l2d hx hb hdg (kk _ _ _ hL hl ⟨rfl, hS24⟩)
  · obtain ⟨r, hr, e⟩ := Option.map_eq_some_iff.mp h
    cases e
    obtain ⟨x, y, v, r, cr, rfl, hf, rfl, hS25⟩ := zl2_inv hr hS
    cases hf
    exact lv_ladd hx hb hdg (kk _ _ _ hL hl ⟨rfl, hS25⟩)
  · obtain ⟨r, hr, e⟩ := Option.map_eq_some_iff.mp h
    cases e
    obtain ⟨x, y, v, r, cr, rfl, hf, rfl, hS26⟩ := zl2_inv hr hS
    cases hf
    exact lv_land hx hb hdg (kk _ _ _ hL hl ⟨rfl, hS26⟩)
  · obtain ⟨r, hr, e⟩ := Option.map_eq_some_iff.mp h
    cases e
    obtain ⟨x, y, v, r, cr, rfl, hf, rfl, hS27⟩ := zl2_inv hr hS
    cases hf
    exact lv_lor hx hb hdg (kk _ _ _ hL hl ⟨rfl, hS27⟩)
  · obtain ⟨r, hr, e⟩ := Option.map_eq_some_iff.mp h
    cases e
    obtain ⟨x, y, v, r, cr, rfl, hf, rfl, hS28⟩ := zl2_inv hr hS
    cases hf
    exact W.lcmp hx hb hdg (kk _ _ _ hL hl ⟨rfl, hS28⟩)
  · obtain ⟨r, hr, e⟩ := Option.map_eq_some_iff.mp h
    cases e
    obtain ⟨x, y, v, r, cr, rfl, hf, rfl, hS29⟩ := zls_inv hr hS
    cases hf
    exact lv_lshl hx hb hdg rfl (kk _ _ _ hL hl ⟨rfl, hS29⟩)
  · obtain ⟨r, hr, e⟩ := Option.map_eq_some_iff.mp h
    cases e
    obtain ⟨x, y, v, r, cr, rfl, hf, rfl, hS30⟩ := zls_inv hr hS
    cases hf
    exact lv_lshr hx hb hdg rfl (kk _ _ _ hL hl ⟨rfl, hS30⟩)
  · obtain ⟨r, hr, e⟩ := Option.map_eq_some_iff.mp h
    cases e
    obtain ⟨x, y, v, r, cr, rfl, hf, rfl, hS31⟩ := zls_inv hr hS
    cases hf
    exact lv_lushr hx hb hdg rfl (kk _ _ _ hL hl ⟨rfl, hS31⟩)
  · obtain ⟨r, hr, e⟩ := Option.map_eq_some_iff.mp h
    cases e
    obtain ⟨x, v, r, cr, rfl, hf, rfl, hS32⟩ := zd1_inv hr hS
    cases hf
    exact lv_dneg hx hb hdg (kk _ _ _ hL hl ⟨rfl, hS32⟩)
  · obtain ⟨r, hr, e⟩ := Option.map_eq_some_iff.mp h
    cases e
    obtain ⟨x, y, v, r, cr, rfl, hf, rfl, hS33⟩ := zd2_inv hr hS
    unfold zfin at hf
    split at hf
    · next hn => cases hf; exact lv_dmul hx hb hdg hn (kk _ _ _ hL hl ⟨rfl, hS33⟩)
    · cases hf
  · obtain ⟨r, hr, e⟩ := Option.map_eq_some_iff.mp h
    cases e
    obtain ⟨x, y, v, r, cr, rfl, hf, rfl, hS34⟩ := zd2_inv hr hS
    unfold zfin at hf
    split at hf
    · next hn => cases hf; exact lv_ddiv hx hb hdg hn (kk _ _ _ hL hl ⟨rfl, hS34⟩)
    · cases hf
  · obtain ⟨r, hr, e⟩ := Option.map_eq_some_iff.mp h
    cases e
    obtain ⟨x, y, v, r, cr, rfl, hf, rfl, hS35⟩ := zd2_inv hr hS
    cases hf
    exact lv_dcmp hx hb hdg (kk _ _ _ hL hl ⟨rfl, hS35⟩)
  · obtain ⟨r, hr, e⟩ := Option.map_eq_some_iff.mp h
    cases e
    unfold zdup at hr
    split at hr
    · split at hr
      · next hc =>
        cases hr
        obtain ⟨c0, cr0, rfl, h0, hS36⟩ := zF_c hS
        exact lv_dup hx hb hdg (h0.cat.trans hc) (kk _ _ _ hL hl ⟨h0, h0, hS36⟩)
      · cases hr
    · cases hr
  · obtain ⟨r, hr, e⟩ := Option.map_eq_some_iff.mp h
    cases e
    unfold zpop at hr
    split at hr
    · split at hr
      · next hc =>
        cases hr
        obtain ⟨c0, cr0, rfl, h0, hS37⟩ := zF_c hS
        exact lv_pop hx hb hdg (h0.cat.trans hc) (kk _ _ _ hL hl hS37)
      · cases hr
    · cases hr
  · obtain ⟨r, hr, e⟩ := Option.map_eq_some_iff.mp h
    cases e
    unfold zdupx1 at hr
    split at hr
    · split at hr
      · next hc =>
        cases hr
        obtain ⟨c0, cr0, rfl, h0, hS38⟩ := zF_c hS
        obtain ⟨c1, cr1, rfl, h1, hS39⟩ := zF_c hS38
        exact lv_dup_x1 hx hb hdg (h0.cat.trans hc.1) (h1.cat.trans hc.2) (kk _ _ _ hL hl ⟨h0, h1, h0, hS39⟩)
      · cases hr
    · cases hr
  · obtain ⟨r, hr, e⟩ := Option.map_eq_some_iff.mp h
    cases e
    unfold zdupx2 at hr
    split at hr
    · split at hr
      · next hc =>
        cases hr
        obtain ⟨c0, cr0, rfl, h0, hS40⟩ := zF_c hS
        obtain ⟨c1, cr1, rfl, h1, hS41⟩ := zF_c hS40
        obtain ⟨c2, cr2, rfl, h2, hS42⟩ := zF_c hS41
        exact lv_dup_x2 hx hb hdg (h0.cat.trans hc.1) (h1.cat.trans hc.2.1) (h2.cat.trans hc.2.2) (kk _ _ _ hL hl ⟨h0, h1, h2, h0, hS42⟩)
      · cases hr
    · cases hr
  · obtain ⟨r, hr, e⟩ := Option.map_eq_some_iff.mp h
    cases e
    unfold zdup2 at hr
    split at hr
    · split at hr
      · next hc =>
        cases hr
        obtain ⟨c0, cr0, rfl, h0, hS43⟩ := zF_c hS
        obtain ⟨c1, cr1, rfl, h1, hS44⟩ := zF_c hS43
        exact lv_dup2_11 hx hb hdg (h0.cat.trans hc.1) (h1.cat.trans hc.2) (kk _ _ _ hL hl ⟨h0, h1, h0, h1, hS44⟩)
      · cases hr
    · cases hr
  · cases h
end ZP
end
section
/-! branches and switches -/
def ztgt (pc : Nat) (off : Int) : Option Nat := match (pc : Int) + off with
  | .ofNat t => some t
  | .negSucc _ => none
theorem ztgt_eq {pc : Nat} {off : Int} {t : Nat} (h : ztgt pc off = some t) : (pc : Int) + off = (t : Int) := by
  unfold ztgt at h
  split at h
  next a e => cases h; exact e
  next => cases h
def zcnd (c : Jvm.ClassFile.Cond) (x y : Int32) (t f : Nat) : Nat := match c with
  | .eq => if x = y then t else f
  | .ne => if x = y then f else t
  | .lt => if x < y then t else f
  | .ge => if y ≤ x then t else f
  | .gt => if y < x then t else f
  | .le => if x ≤ y then t else f
def zbr (pc len : Nat) (i : Instr) (st : List Value) : Option (Nat × List Value) := match i with
  | .goto off => if len = 3 then (ztgt pc off).map (fun t => (t, st)) else none
  | .ifCond c off => match st with
    | .int x :: r => if len = 3 then (ztgt pc off).map (fun t => (zcnd c x 0 t (pc + 3), r)) else none
    | _ => none
  | .if_icmp c off => match st with
    | .int y :: .int x :: r => if len = 3 then (ztgt pc off).map (fun t => (zcnd c x y t (pc + 3), r)) else none
    | _ => none
  | .tableswitch d lo hi offs => match st with
    | .int x :: r => if x.toInt < lo ∨ hi < x.toInt then (ztgt pc d).map (fun t => (t, r)) else (offs[(x.toInt - lo).toNat]?).bind (fun o => (ztgt pc o).map (fun t => (t, r)))
    | _ => none
  | .lookupswitch d ps => match st with
    | .int x :: r => if (ps.toList.zip (ps.toList.drop 1)).all (fun (a, next) => a.1 < next.1) = true then (ztgt pc (Op.lookupswitch.offset ps.toList d x.toInt)).map (fun t => (t, r)) else none
    | _ => none
  | _ => none
section ZB
variable {p : Program} {l : Launch} {e : Env} {R : Room} {s : State} {m : MethodId} {args : Array Value} {below : List Frame} {meth : Method} {c : Code} {H : Heap} {locs : List Loc} {cells slots : Nat} {Q : State → Prop}
variable {cc : ByteArray} {pc pc' nL len : Nat} {ls : Array Slot} {sa : Nat → Nat} {ad : List Nat} {st cs st' : List Value}
theorem zbr_ok (hx : p.tables.exec = Jvm.exec) (hb : c.code = cc) {i : Instr} (hdg : decode cc pc = .ok (i, len)) (hS : zF sa ad st cs)
    (h : zbr pc len i st = some (pc', st')) (kk : ∀ (cs' : List Value), zF sa ad st' cs' → W p l e R s m args below meth c H locs cells slots Q (F0 m pc' ls cs')) :
    W p l e R s m args below meth c H locs cells slots Q (F0 m pc ls cs) := by
  unfold zbr at h
  split at h
  · next off =>
    split at h
    · next e3 =>
      subst e3
      obtain ⟨t, ht, e⟩ := Option.map_eq_some_iff.mp h
      cases e
      exact lv_goto hx hb hdg (ztgt_eq ht) (kk _ hS)
    · cases h
  · next cd off =>
    split at h
    · next x r =>
      obtain ⟨cr, rfl, hS1⟩ := zF_i hS
      split at h
      · next e3 =>
        subst e3
        obtain ⟨t, ht, e⟩ := Option.map_eq_some_iff.mp h
        cases e
        have ht := ztgt_eq ht
        have k2 := kk _ hS1
        cases cd <;> simp only [zcnd] at k2
        · exact lv_if_eq hx hb hdg ht (fun q => by rw [if_pos q] at k2; exact k2) (fun q => by rw [if_neg q] at k2; exact k2)
        · exact lv_if_ne hx hb hdg ht (fun q => by rw [if_neg q] at k2; exact k2) (fun q => by rw [if_pos q] at k2; exact k2)
        · exact lv_if_lt hx hb hdg ht (fun q => by rw [if_pos q] at k2; exact k2) (fun q => by rw [if_neg q] at k2; exact k2)
        · exact lv_if_ge hx hb hdg ht (fun q => by rw [if_pos q] at k2; exact k2) (fun q => by rw [if_neg q] at k2; exact k2)
        · exact lv_if_gt hx hb hdg ht (fun q => by rw [if_pos q] at k2; exact k2) (fun q => by rw [if_neg q] at k2; exact k2)
        · exact lv_if_le hx hb hdg ht (fun q => by rw [if_pos q] at k2; exact k2) (fun q => by rw [if_neg q] at k2; exact k2)
      · cases h
    · cases h
  · next cd off =>
    split at h
    · next y x r =>
      obtain ⟨cr, rfl, hS1⟩ := zF_i hS
      obtain ⟨cr2, rfl, hS2⟩ := zF_i hS1
      split at h
      · next e3 =>
        subst e3
        obtain ⟨t, ht, e⟩ := Option.map_eq_some_iff.mp h
        cases e
        have ht := ztgt_eq ht
        have k2 := kk _ hS2
        cases cd <;> simp only [zcnd] at k2
        · exact lv_icmp_eq hx hb hdg ht (fun q => by rw [if_pos q] at k2; exact k2) (fun q => by rw [if_neg q] at k2; exact k2)
        · exact lv_icmp_ne hx hb hdg ht (fun q => by rw [if_neg q] at k2; exact k2) (fun q => by rw [if_pos q] at k2; exact k2)
        · exact lv_icmp_lt hx hb hdg ht (fun q => by rw [if_pos q] at k2; exact k2) (fun q => by rw [if_neg q] at k2; exact k2)
        · exact lv_icmp_ge hx hb hdg ht (fun q => by rw [if_pos q] at k2; exact k2) (fun q => by rw [if_neg q] at k2; exact k2)
        · exact lv_icmp_gt hx hb hdg ht (fun q => by rw [if_pos q] at k2; exact k2) (fun q => by rw [if_neg q] at k2; exact k2)
        · exact lv_icmp_le hx hb hdg ht (fun q => by rw [if_pos q] at k2; exact k2) (fun q => by rw [if_neg q] at k2; exact k2)
      · cases h
    · cases h
  · next d lo hi offs =>
    split at h
    · next x r =>
      obtain ⟨cr, rfl, hS1⟩ := zF_i hS
      split at h
      · next hq =>
        obtain ⟨t, ht, e⟩ := Option.map_eq_some_iff.mp h
        cases e
        exact lv_tableOut hx hb hdg hq (ztgt_eq ht) (kk _ hS1)
      · next hq =>
        obtain ⟨o, ho, h2⟩ := Option.bind_eq_some_iff.mp h
        obtain ⟨t, ht, e⟩ := Option.map_eq_some_iff.mp h2
        cases e
        exact lv_tableIn hx hb hdg (fun z => hq (Or.inl z)) (fun z => hq (Or.inr z)) ho (ztgt_eq ht) (kk _ hS1)
    · cases h
  · next d ps =>
    split at h
    · next x r =>
      obtain ⟨cr, rfl, hS1⟩ := zF_i hS
      split at h
      · next hq =>
        obtain ⟨t, ht, e⟩ := Option.map_eq_some_iff.mp h
        cases e
        exact lv_lookup hx hb hdg hq rfl (ztgt_eq ht) (kk _ hS1)
      · cases h
    · cases h
  · cases h
end ZB
end
section
/-! cells: the abstract heap h, the addresses ad of its cells, the machine's world ws -/
def zprim (x : vp_A) : Prop := match x.2 with
  | .inr (.inr (.inr (.inr _))) => False
  | _ => True
def zC (sa : Nat → Nat) (tys : List (ClassId × FieldType)) (ad : List Nat) (e : zE) (e' : va_E) : Prop := match e, e' with
  | .inl x, .inl y => (∃ ty, tys[x.1]? = some (y.1, ty)) ∧ y.2 = x.2
  | .inr x, .inr y => y.1 = x.1 ∧ zF sa ad x.2 y.2
  | _, _ => False
def zRel (sa : Nat → Nat) (tys : List (ClassId × FieldType)) (ad : List Nat) (h : zH) (ws : va_W) : Prop :=
  ad.length = h.length ∧ ws.length = h.length ∧ ∀ (i : Nat) (e : zE), h[i]? = some e → ∃ a e', ad[i]? = some a ∧ ws[i]? = some (a, e') ∧ zC sa tys ad e e'
theorem zV.mono {sa : Nat → Nat} {ad : List Nat} (x : List Nat) {v c : Value} (h : zV sa ad v c) : zV sa (ad ++ x) v c := by
  cases v <;> try exact h
  obtain ⟨a, h1, h2⟩ := h
  exact ⟨a, by rw [List.getElem?_append_left (List.getElem?_eq_some_iff.mp h1).1]; exact h1, h2⟩
theorem zF.mono {sa : Nat → Nat} {ad : List Nat} (x : List Nat) : ∀ {vs cs : List Value}, zF sa ad vs cs → zF sa (ad ++ x) vs cs := by
  intro vs
  induction vs with
  | nil => intro cs h; cases zF_n h; exact True.intro
  | cons v vs ih =>
    intro cs h
    obtain ⟨c, cr, rfl, h1, h2⟩ := zF_c h
    exact ⟨h1.mono x, ih h2⟩
theorem zLR.mono {sa : Nat → Nat} {ad : List Nat} (x : List Nat) : ∀ {l k : zL}, zLR sa ad l k → zLR sa (ad ++ x) l k := by
  intro l
  induction l with
  | nil => intro k h; cases k with
    | nil => exact True.intro
    | cons r k => exact absurd h (by simp [zLR])
  | cons q l ih =>
    intro k h
    cases k with
    | nil => exact absurd h (by simp [zLR])
    | cons r k => exact ⟨h.1, h.2.1.mono x, ih h.2.2⟩
theorem zC.mono {tys : List (ClassId × FieldType)} {sa : Nat → Nat} {ad : List Nat} (x : List Nat) {e : zE} {e' : va_E} (h : zC sa tys ad e e') : zC sa tys (ad ++ x) e e' := by
  cases e <;> cases e' <;> first | exact h | exact ⟨h.1, h.2.mono x⟩
theorem zF.at {sa : Nat → Nat} {ad : List Nat} : ∀ {vs cs : List Value}, zF sa ad vs cs → ∀ {k : Nat} {v : Value}, vs[k]? = some v → ∃ c, cs[k]? = some c ∧ zV sa ad v c := by
  intro vs
  induction vs with
  | nil => intro cs h k v hk; simp at hk
  | cons w vs ih =>
    intro cs h k v hk
    obtain ⟨c, cr, rfl, h1, h2⟩ := zF_c h
    cases k with
    | zero => cases hk; exact ⟨c, rfl, h1⟩
    | succ k => exact ih h2 hk
theorem zF.len {sa : Nat → Nat} {ad : List Nat} : ∀ {vs cs : List Value}, zF sa ad vs cs → cs.length = vs.length := by
  intro vs
  induction vs with
  | nil => intro cs h; cases zF_n h; rfl
  | cons w vs ih =>
    intro cs h
    obtain ⟨c, cr, rfl, h1, h2⟩ := zF_c h
    simp [ih h2]
theorem zF.set {sa : Nat → Nat} {ad : List Nat} : ∀ {vs cs : List Value}, zF sa ad vs cs → ∀ (k : Nat) {v c : Value}, zV sa ad v c → zF sa ad (vs.set k v) (cs.set k c) := by
  intro vs
  induction vs with
  | nil => intro cs h k v c hv; cases zF_n h; exact True.intro
  | cons w vs ih =>
    intro cs h k v c hv
    obtain ⟨d, cr, rfl, h1, h2⟩ := zF_c h
    cases k with
    | zero => exact ⟨hv, h2⟩
    | succ k => exact ⟨h1, ih h2 k hv⟩
theorem zF.app {sa : Nat → Nat} {ad : List Nat} : ∀ {vs cs : List Value}, zF sa ad vs cs → ∀ {ws ds : List Value}, zF sa ad ws ds → zF sa ad (vs ++ ws) (cs ++ ds) := by
  intro vs
  induction vs with
  | nil => intro cs h ws ds h2; cases zF_n h; exact h2
  | cons w vs ih =>
    intro cs h ws ds h2
    obtain ⟨d, cr, rfl, h1, h3⟩ := zF_c h
    exact ⟨h1, ih h3 h2⟩
theorem zRel.set {tys : List (ClassId × FieldType)} {sa : Nat → Nat} {ad : List Nat} {h : zH} {ws : va_W} (hr : zRel sa tys ad h ws) {i a : Nat} {e : zE} {e' : va_E} (ha : ad[i]? = some a) (he : zC sa tys ad e e') : zRel sa tys ad (h.set i e) (ws.set i (a, e')) := by
  obtain ⟨h1, h2, h3⟩ := hr
  refine ⟨by simpa using h1, by simpa using h2, fun j x hx => ?_⟩
  by_cases hj : i = j
  · subst hj
    have hi : i < h.length := by
      have := (List.getElem?_eq_some_iff.mp hx).1
      simpa using this
    rw [List.getElem?_set_self hi] at hx
    cases hx
    exact ⟨a, e', ha, by rw [List.getElem?_set_self (by omega)], he⟩
  · rw [List.getElem?_set_ne hj] at hx ⊢
    exact h3 j x hx
theorem zRel.push {tys : List (ClassId × FieldType)} {sa : Nat → Nat} {ad : List Nat} {h : zH} {ws : va_W} (hr : zRel sa tys ad h ws) {a : Nat} {e : zE} {e' : va_E} (he : zC sa tys (ad ++ [a]) e e') : zRel sa tys (ad ++ [a]) (h ++ [e]) (ws ++ [(a, e')]) := by
  obtain ⟨h1, h2, h3⟩ := hr
  refine ⟨by simp [h1], by simp [h2], fun j x hx => ?_⟩
  by_cases hj : j < h.length
  · rw [List.getElem?_append_left hj] at hx
    obtain ⟨b, e1, q1, q2, q3⟩ := h3 j x hx
    exact ⟨b, e1, by rw [List.getElem?_append_left (by omega)]; exact q1, by rw [List.getElem?_append_left (by omega)]; exact q2, q3.mono _⟩
  · have hj2 : j = h.length := by
      have := (List.getElem?_eq_some_iff.mp hx).1
      simp at this
      omega
    subst hj2
    have hx2 : x = e := by simpa using hx.symm
    subst hx2
    exact ⟨a, e', by rw [← h1]; simp, by rw [← h2]; simp, he⟩
/-- the rows of a class' table and what the tables' words give of it -/
def zCls (cl : List vw_C) (tyf : Nat → Nat → FieldType) (Ts : List Jvm.Cond) : Prop := ∀ (ci : Nat) (q : vw_C), cl[ci]? = some q →
  (∀ w ∈ u_ws q.1 q.2.1 q.2.2, w ∈ Ts) ∧ (∀ k, k < q.2.2 → parseFieldDescriptor (q.2.1 k).2.2.1 = some (tyf ci k)) ∧ (∀ a, a < q.2.2 → ∀ b, b < q.2.2 → a ≠ b → (q.2.1 a).2.1 ≠ (q.2.1 b).2.1)
/-- the fields that the class 'own' (its number: k0) names by numbers -/
def zFl (cl : List vw_C) (Ts : List Jvm.Cond) (own : String) (k0 : Nat) (fl : Nat → Option (Nat × Nat)) : Prop := ∀ (ix ci k : Nat), fl ix = some (ci, k) → ∃ q : vw_C, cl[ci]? = some q ∧ k < q.2.2 ∧
  ((Jvm.Cond.fieldLink own ix (q.2.1 k).1 (q.2.1 k).2.1 (q.2.1 k).2.2.1 ∈ Ts ∧ ((q.2.1 k).2.2.2 = true → (q.2.1 k).1 = own)) ∨ (ci ≠ k0 ∧ ∃ host, Jvm.Cond.fieldLinkNest own ix (q.2.1 k).1 (q.2.1 k).2.1 (q.2.1 k).2.2.1 host ∈ Ts))
/-- the classes that 'own' makes objects of -/
def zNl (cl : List vw_C) (Ts : List Jvm.Cond) (own : String) (nl : Nat → Option Nat) : Prop := ∀ (ix ci : Nat), nl ix = some ci → ∃ q : vw_C, cl[ci]? = some q ∧ Jvm.Cond.classLink own ix q.1 ∈ Ts ∧ Jvm.Cond.instantiable q.1 q.2.2 ∈ Ts ∧ Jvm.Cond.initialized q.1 ∈ Ts
def zfit (ty : FieldType) (v : Value) : Bool := match ty, v with
  | .int, .int _ => true
  | .boolean, .int x => x == 0 || x == 1
  | .object _, .ref _ => true
  | .array _, .ref _ => true
  | _, _ => false
theorem zfit_ok {sa : Nat → Nat} {ad : List Nat} {ty : FieldType} {v c : Value} (h : zfit ty v = true) (hv : zV sa ad v c) : narrow ty c = c ∧ fits ty c = true := by
  unfold zfit at h
  split at h
  · cases hv; exact ⟨rfl, rfl⟩
  · next x =>
    cases hv
    simp only [Bool.or_eq_true, beq_iff_eq] at h
    rcases h with rfl | rfl <;> exact ⟨by decide, by decide⟩
  · obtain ⟨a, -, rfl⟩ := hv; exact ⟨rfl, rfl⟩
  · obtain ⟨a, -, rfl⟩ := hv; exact ⟨rfl, rfl⟩
  · cases h
def zfinal (cl : List vw_C) (ci k : Nat) : Bool := match cl[ci]? with
  | some q => (q.2.1 k).2.2.2
  | none => true
def zgetf (fl : Nat → Option (Nat × Nat)) (ix : Nat) (h : zH) (st : List Value) : Option (List Value) := match st with
  | .ref i :: r => match fl ix, h[i]? with
    | some (ci, k), some (.inr (cj, fs)) => if cj = ci then (fs[k]?).map (fun v => v :: r) else none
    | _, _ => none
  | _ => none
def zputf (cl : List vw_C) (tyf : Nat → Nat → FieldType) (init : Bool) (k0 : Nat) (fl : Nat → Option (Nat × Nat)) (ix : Nat) (h : zH) (st : List Value) : Option (zH × List Value) := match st with
  | v :: .ref i :: r => match fl ix, h[i]? with
    | some (ci, k), some (.inr (cj, fs)) => if cj = ci ∧ k < fs.length ∧ zfit (tyf ci k) v = true ∧ (zfinal cl ci k = true → init = true ∧ ci = k0) then some (h.set i (.inr (ci, fs.set k v)), r) else none
    | _, _ => none
  | _ => none
section ZH
variable {p : Program} {l : Launch} {e : Env} {R : Room} {s : State} {m : MethodId} {args : Array Value} {below : List Frame} {meth : Method} {c : Code} {H : Heap} {locs : List Loc} {cells slots : Nat} {Q : State → Prop}
variable {cc : ByteArray} {pc pc' nL len : Nat} {ls : Array Slot} {sa : Nat → Nat} {ad : List Nat} {st cs st' : List Value} {h h' : zH} {ws : va_W} {D : va_G} {cl : List vw_C} {tys : List (ClassId × FieldType)} {A : Nat → Prop} {Ts : List Jvm.Cond} {own : String} {tyf : Nat → Nat → FieldType} {fl : Nat → Option (Nat × Nat)} {init : Bool} {k0 : Nat}
theorem zgetf_ok (hx : p.tables.exec = Jvm.exec) (hb : c.code = cc) (hts : ∀ w ∈ Ts, w.before args s = true) (hown : s.vm.findClass own = some m.cls) (hK : va_K D cl tys s) (hcls : zCls cl tyf Ts) (hfl : zFl cl Ts own k0 fl)
    {ix : Nat} (hdg : decode cc pc = .ok (.getfield ix, 3)) (hr : zRel sa tys ad h ws) (hP : va_P D cl ws H) (hS : zF sa ad st cs)
    (hz : zgetf fl ix h st = some st') (kk : ∀ cs', zF sa ad st' cs' → W p l e R s m args below meth c H locs cells slots Q (F0 m (pc + 3) ls cs')) :
    W p l e R s m args below meth c H locs cells slots Q (F0 m pc ls cs) := by
  unfold zgetf at hz
  split at hz
  · next i r =>
    obtain ⟨cv, cr, rfl, hv, hS1⟩ := zF_c hS
    split at hz
    · next ci k cj fs hf hi =>
      split at hz
      · next hcj =>
        subst hcj
        obtain ⟨v, hv2, e1⟩ := Option.map_eq_some_iff.mp hz
        cases e1
        obtain ⟨q, hq, hk, hlk⟩ := hfl _ _ _ hf
        obtain ⟨a, ee, ha, hw, hc⟩ := hr.2.2 _ _ hi
        obtain ⟨b, hb1, rfl⟩ := hv
        cases ha.symm.trans hb1
        cases ee with
        | inl x => exact absurd hc (by simp [zC])
        | inr x =>
          obtain ⟨xi, xs⟩ := x
          obtain ⟨hc1, hc2⟩ := hc
          cases (show xi = cj from hc1)
          obtain ⟨cw, hcw, hcv⟩ := hc2.at hv2
          rcases hlk with ⟨hlk, -⟩ | ⟨-, host, hlk⟩
          · exact va_get hx hb hts (hcls _ _ hq).1 hown hK hP i hw hq k hk (hts _ hlk) (fun x hx => hx) hcw hdg (kk _ ⟨hcv, hS1⟩)
          · exact va_getN hx hb hts (hcls _ _ hq).1 hown hK hP i hw hq k hk (hts _ hlk) (fun x hx => hx) hcw hdg (kk _ ⟨hcv, hS1⟩)
      · cases hz
    · cases hz
  · cases hz
theorem zputf_ok (hx : p.tables.exec = Jvm.exec) (hb : c.code = cc) (hts : ∀ w ∈ Ts, w.before args s = true) (hown : s.vm.findClass own = some m.cls) (hK : va_K D cl tys s) (hcls : zCls cl tyf Ts) (hfl : zFl cl Ts own k0 fl) (hini : init = true → meth.name = "<init>")
    {ix : Nat} (hdg : decode cc pc = .ok (.putfield ix, 3)) (hr : zRel sa tys ad h ws) (hP : va_P D cl ws H) (hD : va_D A ws) (hS0 : va_S A s.heap H locs) (hS : zF sa ad st cs)
    (hz : zputf cl tyf init k0 fl ix h st = some (h', st')) (kk : ∀ (ws' : va_W) (H1 : Heap) (locs1 : List Loc) (cs' : List Value), zRel sa tys ad h' ws' → va_P D cl ws' H1 → va_D A ws' → va_S A s.heap H1 locs1 → zF sa ad st' cs' → W p l e R s m args below meth c H1 locs1 cells slots Q (F0 m (pc + 3) ls cs')) :
    W p l e R s m args below meth c H locs cells slots Q (F0 m pc ls cs) := by
  unfold zputf at hz
  split at hz
  · next v i r =>
    obtain ⟨cv, cr, rfl, hv, hS1⟩ := zF_c hS
    obtain ⟨ca, cr2, rfl, hva, hS2⟩ := zF_c hS1
    split at hz
    · next ci k cj fs hf hi =>
      split at hz
      · next hcj =>
        obtain ⟨rfl, hkl, hft, hfi⟩ := hcj
        cases hz
        obtain ⟨q, hq, hk, hlk⟩ := hfl _ _ _ hf
        obtain ⟨a, ee, ha, hw, hc⟩ := hr.2.2 _ _ hi
        obtain ⟨b, hb1, rfl⟩ := hva
        cases ha.symm.trans hb1
        have hfin : zfinal cl cj k = (q.2.1 k).2.2.2 := by unfold zfinal; rw [hq]
        obtain ⟨hn, hfit⟩ := zfit_ok hft hv
        cases ee with
        | inl x => exact absurd hc (by simp [zC])
        | inr x =>
          obtain ⟨xi, xs⟩ := x
          obtain ⟨hc1, hc2⟩ := hc
          cases (show xi = cj from hc1)
          have hkx : k < xs.length := by rw [zF.len hc2]; exact hkl
          have hrel := hr.set (i := i) (a := a) (e := .inr (cj, fs.set k v)) (e' := .inr (cj, xs.set k cv)) ha ⟨rfl, hc2.set k hv⟩
          obtain ⟨g1, g2, g3⟩ := hcls _ _ hq
          cases hff : (q.2.1 k).2.2.2 with
          | true =>
            rw [hff] at hfin
            rcases hlk with ⟨hlk, hd⟩ | ⟨hd, -⟩
            · exact va_putF hx hb hts g1 (tyf cj) g2 g3 hown hK hP hD hS0 i hw hq k hk (hts _ hlk) (fun x hx => hx) hff (hini (hfi hfin).1) (hd hff) (g2 k hk) hn hfit hkx hdg (fun H1 locs1 a1 a2 a3 => kk _ _ _ _ hrel a1 a2 a3 hS2)
            · exact absurd (hfi hfin).2 hd
          | false =>
            rcases hlk with ⟨hlk, -⟩ | ⟨-, host, hlk⟩
            · exact va_put hx hb hts g1 (tyf cj) g2 g3 hown hK hP hD hS0 i hw hq k hk (hts _ hlk) (fun x hx => hx) hff (g2 k hk) hn hfit hkx hdg (fun H1 locs1 a1 a2 a3 => kk _ _ _ _ hrel a1 a2 a3 hS2)
            · exact va_putN hx hb hts g1 (tyf cj) g2 g3 hown hK hP hD hS0 i hw hq k hk (hts _ hlk) (fun x hx => hx) hff (g2 k hk) hn hfit hkx hdg (fun H1 locs1 a1 a2 a3 => kk _ _ _ _ hrel a1 a2 a3 hS2)
      · cases hz
    · cases hz
  · cases hz
end ZH
end
section
/-! arrays, new cells. The kinds of arrays by their places in 'tys': 0 int, 1 boolean, 2 long, 3 double -/
def zTys (tys : List (ClassId × FieldType)) : Prop := ∃ a b c d, tys = [(a, .int), (b, .boolean), (c, .long), (d, .double)]
def zin (i : Int32) (n : Nat) : Bool := !(decide (i < 0)) && decide (i.toNatClampNeg < n)
theorem zin_ok {i : Int32} {n : Nat} (h : zin i n = true) : vp_in i n := by
  unfold zin at h
  simp only [Bool.and_eq_true, Bool.not_eq_true', decide_eq_false_iff_not, decide_eq_true_eq] at h
  intro q
  rcases q with q | q
  · exact h.1 q
  · omega
def zaldI (h : zH) (st : List Value) : Option (List Value) := match st with
  | .int i :: .ref a :: r => match h[a]? with
    | some (.inl (t, n, .inl f)) => if t = 0 ∧ zin i n = true then some (.int (f i.toNatClampNeg) :: r) else none
    | _ => none
  | _ => none
def zaldZ (h : zH) (st : List Value) : Option (List Value) := match st with
  | .int i :: .ref a :: r => match h[a]? with
    | some (.inl (t, n, .inl f)) => if t = 1 ∧ zin i n = true then some (.int (f i.toNatClampNeg) :: r) else none
    | _ => none
  | _ => none
def zaldL (h : zH) (st : List Value) : Option (List Value) := match st with
  | .int i :: .ref a :: r => match h[a]? with
    | some (.inl (t, n, .inr (.inl f))) => if t = 2 ∧ zin i n = true then some (.long (f i.toNatClampNeg) :: r) else none
    | _ => none
  | _ => none
def zaldD (h : zH) (st : List Value) : Option (List Value) := match st with
  | .int i :: .ref a :: r => match h[a]? with
    | some (.inl (t, n, .inr (.inr (.inr (.inl f))))) => if t = 3 ∧ zin i n = true then some (.double (f i.toNatClampNeg) :: r) else none
    | _ => none
  | _ => none
def zastI (h : zH) (st : List Value) : Option (zH × List Value) := match st with
  | .int x :: .int i :: .ref a :: r => match h[a]? with
    | some (.inl (t, n, .inl f)) => if t = 0 ∧ zin i n = true then some (h.set a (.inl (0, n, .inl (upd f i.toNatClampNeg x))), r) else none
    | _ => none
  | _ => none
def zastZ (h : zH) (st : List Value) : Option (zH × List Value) := match st with
  | .int x :: .int i :: .ref a :: r => match h[a]? with
    | some (.inl (t, n, .inl f)) => if t = 1 ∧ zin i n = true then some (h.set a (.inl (1, n, .inl (upd f i.toNatClampNeg (vp_nar .boolean x)))), r) else none
    | _ => none
  | _ => none
def zastL (h : zH) (st : List Value) : Option (zH × List Value) := match st with
  | .long x :: .int i :: .ref a :: r => match h[a]? with
    | some (.inl (t, n, .inr (.inl f))) => if t = 2 ∧ zin i n = true then some (h.set a (.inl (2, n, .inr (.inl (vp_updL f i.toNatClampNeg x)))), r) else none
    | _ => none
  | _ => none
def zastD (h : zH) (st : List Value) : Option (zH × List Value) := match st with
  | .double x :: .int i :: .ref a :: r => match h[a]? with
    | some (.inl (t, n, .inr (.inr (.inr (.inl f))))) => if t = 3 ∧ zin i n = true then some (h.set a (.inl (3, n, .inr (.inr (.inr (.inl (vf_upd f i.toNatClampNeg x)))))), r) else none
    | _ => none
  | _ => none
def zalen (h : zH) (st : List Value) : Option (List Value) := match st with
  | .ref a :: r => match h[a]? with
    | some (.inl (_, x)) => some (.int (Int32.ofNat x.1) :: r)
    | _ => none
  | _ => none
def zdef (tyf : Nat → Nat → FieldType) (ci n : Nat) : List Value := (List.range n).map (fun j => defaultValue (tyf ci j))
def znew (cl : List vw_C) (tyf : Nat → Nat → FieldType) (nl : Nat → Option Nat) (ix : Nat) (h : zH) (st : List Value) : Option (zH × List Value × Nat) := match nl ix with
  | some ci => match cl[ci]? with
    | some q => some (h ++ [.inr (ci, zdef tyf ci q.2.2)], .ref h.length :: st, q.2.2)
    | none => none
  | none => none
def znewa (t : ArrayType) (h : zH) (st : List Value) : Option (zH × List Value × Nat) := match st with
  | .int n :: r => if n < 0 ∨ 100000 < n.toNatClampNeg then none else match t with
    | .int => some (h ++ [.inl (0, n.toNatClampNeg, .inl (fun _ => 0))], .ref h.length :: r, n.toNatClampNeg)
    | .boolean => some (h ++ [.inl (1, n.toNatClampNeg, .inl (fun _ => 0))], .ref h.length :: r, n.toNatClampNeg)
    | .long => some (h ++ [.inl (2, n.toNatClampNeg, .inr (.inl (fun _ => 0)))], .ref h.length :: r, n.toNatClampNeg)
    | .double => some (h ++ [.inl (3, n.toNatClampNeg, .inr (.inr (.inr (.inl (fun _ => 0)))))], .ref h.length :: r, n.toNatClampNeg)
    | _ => none
  | _ => none
theorem zV_def (sa : Nat → Nat) (ad : List Nat) (ty : FieldType) : zV sa ad (defaultValue ty) (defaultValue ty) := by
  cases ty <;> exact rfl
theorem zF_def (sa : Nat → Nat) (ad : List Nat) (f : Nat → FieldType) : ∀ l : List Nat, zF sa ad (l.map (fun j => defaultValue (f j))) (l.map (fun j => defaultValue (f j))) := by
  intro l
  induction l with
  | nil => exact True.intro
  | cons a l ih => exact ⟨zV_def sa ad _, ih⟩
section ZA
variable {p : Program} {l : Launch} {e : Env} {R : Room} {s : State} {m : MethodId} {args : Array Value} {below : List Frame} {meth : Method} {c : Code} {H : Heap} {locs : List Loc} {cells slots : Nat} {Q : State → Prop}
variable {cc : ByteArray} {pc pc' nL len dn : Nat} {ls : Array Slot} {sa : Nat → Nat} {ad : List Nat} {st cs st' : List Value} {h h' : zH} {ws : va_W} {D : va_G} {cl : List vw_C} {tys : List (ClassId × FieldType)} {A : Nat → Prop} {Ts : List Jvm.Cond} {own : String} {tyf : Nat → Nat → FieldType} {nl : Nat → Option Nat}
theorem zRel.arr (hr : zRel sa tys ad h ws) {i t : Nat} {x : vp_A} (hi : h[i]? = some (.inl (t, x))) {b : Nat} (hb : ad[i]? = some b) : ∃ cA ty, ws[i]? = some (b, .inl (cA, x)) ∧ tys[t]? = some (cA, ty) := by
  obtain ⟨a, ee, ha, hw, hc⟩ := hr.2.2 _ _ hi
  cases ha.symm.trans hb
  cases ee with
  | inr x => exact absurd hc (by simp [zC])
  | inl y =>
    obtain ⟨yA, yx⟩ := y
    obtain ⟨⟨ty, h1⟩, h2⟩ := hc
    cases (show yx = x from h2)
    exact ⟨yA, ty, hw, h1⟩
theorem zC.arr {t : Nat} {x : vp_A} {cA : ClassId} {ty : FieldType} (ht : tys[t]? = some (cA, ty)) : zC sa tys ad (.inl (t, x)) (.inl (cA, x)) := ⟨⟨ty, ht⟩, rfl⟩
theorem zC.obj {ci : Nat} {fs gs : List Value} (hf : zF sa ad fs gs) : zC sa tys ad (.inr (ci, fs)) (.inr (ci, gs)) := ⟨rfl, hf⟩
theorem zTys.at0 (h : zTys tys) {q : ClassId × FieldType} (h0 : tys[0]? = some q) : q.2 = .int := by obtain ⟨a, b, c, d, rfl⟩ := h; cases h0; rfl
theorem zTys.at1 (h : zTys tys) {q : ClassId × FieldType} (h0 : tys[1]? = some q) : q.2 = .boolean := by obtain ⟨a, b, c, d, rfl⟩ := h; cases h0; rfl
theorem zTys.at2 (h : zTys tys) {q : ClassId × FieldType} (h0 : tys[2]? = some q) : q.2 = .long := by obtain ⟨a, b, c, d, rfl⟩ := h; cases h0; rfl
theorem zTys.at3 (h : zTys tys) {q : ClassId × FieldType} (h0 : tys[3]? = some q) : q.2 = .double := by obtain ⟨a, b, c, d, rfl⟩ := h; cases h0; rfl
theorem zaldI_ok (hx : p.tables.exec = Jvm.exec) (hb : c.code = cc) (hT : zTys tys) (hK : va_K D cl tys s) (hdg : decode cc pc = .ok (.iaload, 1)) (hr : zRel sa tys ad h ws) (hP : va_P D cl ws H) (hS : zF sa ad st cs)
    (hz : zaldI h st = some st') (kk : ∀ cs', zF sa ad st' cs' → W p l e R s m args below meth c H locs cells slots Q (F0 m (pc + 1) ls cs')) :
    W p l e R s m args below meth c H locs cells slots Q (F0 m pc ls cs) := by
  unfold zaldI at hz
  split at hz
  · next i a r =>
    obtain ⟨cr, rfl, hS1⟩ := zF_i hS
    obtain ⟨ca, cr2, rfl, hva, hS2⟩ := zF_c hS1
    obtain ⟨b, hb1, rfl⟩ := hva
    split at hz
    · next t n f hi =>
      split at hz
      · next hc =>
        obtain ⟨rfl, hin⟩ := hc
        cases hz
        obtain ⟨cA, ty, hw, ht⟩ := hr.arr hi hb1
        cases (show ty = .int from hT.at0 ht)
        exact va_iald hx hb hK hP a 0 hw ht (zin_ok hin) hdg (kk _ ⟨rfl, hS2⟩)
      · cases hz
    · cases hz
  · cases hz
theorem zaldZ_ok (hx : p.tables.exec = Jvm.exec) (hb : c.code = cc) (hT : zTys tys) (hK : va_K D cl tys s) (hdg : decode cc pc = .ok (.baload, 1)) (hr : zRel sa tys ad h ws) (hP : va_P D cl ws H) (hS : zF sa ad st cs)
    (hz : zaldZ h st = some st') (kk : ∀ cs', zF sa ad st' cs' → W p l e R s m args below meth c H locs cells slots Q (F0 m (pc + 1) ls cs')) :
    W p l e R s m args below meth c H locs cells slots Q (F0 m pc ls cs) := by
  unfold zaldZ at hz
  split at hz
  · next i a r =>
    obtain ⟨cr, rfl, hS1⟩ := zF_i hS
    obtain ⟨ca, cr2, rfl, hva, hS2⟩ := zF_c hS1
    obtain ⟨b, hb1, rfl⟩ := hva
    split at hz
    · next t n f hi =>
      split at hz
      · next hc =>
        obtain ⟨rfl, hin⟩ := hc
        cases hz
        obtain ⟨cA, ty, hw, ht⟩ := hr.arr hi hb1
        cases (show ty = .boolean from hT.at1 ht)
        exact va_zald hx hb hK hP a 1 hw ht (zin_ok hin) hdg (kk _ ⟨rfl, hS2⟩)
      · cases hz
    · cases hz
  · cases hz
theorem zaldL_ok (hx : p.tables.exec = Jvm.exec) (hb : c.code = cc) (hT : zTys tys) (hK : va_K D cl tys s) (hdg : decode cc pc = .ok (.laload, 1)) (hr : zRel sa tys ad h ws) (hP : va_P D cl ws H) (hS : zF sa ad st cs)
    (hz : zaldL h st = some st') (kk : ∀ cs', zF sa ad st' cs' → W p l e R s m args below meth c H locs cells slots Q (F0 m (pc + 1) ls cs')) :
    W p l e R s m args below meth c H locs cells slots Q (F0 m pc ls cs) := by
  unfold zaldL at hz
  split at hz
  · next i a r =>
    obtain ⟨cr, rfl, hS1⟩ := zF_i hS
    obtain ⟨ca, cr2, rfl, hva, hS2⟩ := zF_c hS1
    obtain ⟨b, hb1, rfl⟩ := hva
    split at hz
    · next t n f hi =>
      split at hz
      · next hc =>
        obtain ⟨rfl, hin⟩ := hc
        cases hz
        obtain ⟨cA, ty, hw, ht⟩ := hr.arr hi hb1
        cases (show ty = .long from hT.at2 ht)
        exact va_lald hx hb hK hP a 2 hw ht (zin_ok hin) hdg (kk _ ⟨rfl, hS2⟩)
      · cases hz
    · cases hz
  · cases hz
theorem zaldD_ok (hx : p.tables.exec = Jvm.exec) (hb : c.code = cc) (hT : zTys tys) (hK : va_K D cl tys s) (hdg : decode cc pc = .ok (.daload, 1)) (hr : zRel sa tys ad h ws) (hP : va_P D cl ws H) (hS : zF sa ad st cs)
    (hz : zaldD h st = some st') (kk : ∀ cs', zF sa ad st' cs' → W p l e R s m args below meth c H locs cells slots Q (F0 m (pc + 1) ls cs')) :
    W p l e R s m args below meth c H locs cells slots Q (F0 m pc ls cs) := by
  unfold zaldD at hz
  split at hz
  · next i a r =>
    obtain ⟨cr, rfl, hS1⟩ := zF_i hS
    obtain ⟨ca, cr2, rfl, hva, hS2⟩ := zF_c hS1
    obtain ⟨b, hb1, rfl⟩ := hva
    split at hz
    · next t n f hi =>
      split at hz
      · next hc =>
        obtain ⟨rfl, hin⟩ := hc
        cases hz
        obtain ⟨cA, ty, hw, ht⟩ := hr.arr hi hb1
        cases (show ty = .double from hT.at3 ht)
        exact va_dald hx hb hK hP a 3 hw ht (zin_ok hin) hdg (kk _ ⟨rfl, hS2⟩)
      · cases hz
    · cases hz
  · cases hz
theorem zastI_ok (hx : p.tables.exec = Jvm.exec) (hb : c.code = cc) (hT : zTys tys) (hK : va_K D cl tys s) (hdg : decode cc pc = .ok (.iastore, 1)) (hr : zRel sa tys ad h ws) (hP : va_P D cl ws H) (hD : va_D A ws) (hS0 : va_S A s.heap H locs) (hS : zF sa ad st cs)
    (hz : zastI h st = some (h', st')) (kk : ∀ (ws' : va_W) (H1 : Heap) (locs1 : List Loc) (cs' : List Value), zRel sa tys ad h' ws' → va_P D cl ws' H1 → va_D A ws' → va_S A s.heap H1 locs1 → zF sa ad st' cs' → W p l e R s m args below meth c H1 locs1 cells slots Q (F0 m (pc + 1) ls cs')) :
    W p l e R s m args below meth c H locs cells slots Q (F0 m pc ls cs) := by
  unfold zastI at hz
  split at hz
  · next x i a r =>
    obtain ⟨cr0, rfl, hS0'⟩ := zF_i hS
    obtain ⟨cr, rfl, hS1⟩ := zF_i hS0'
    obtain ⟨ca, cr2, rfl, hva, hS2⟩ := zF_c hS1
    obtain ⟨b, hb1, rfl⟩ := hva
    split at hz
    · next t n f hi =>
      split at hz
      · next hc =>
        obtain ⟨rfl, hin⟩ := hc
        cases hz
        obtain ⟨cA, ty, hw, ht⟩ := hr.arr hi hb1
        cases (show ty = .int from hT.at0 ht)
        exact va_iast hx hb hK hP hD hS0 a 0 hw ht (zin_ok hin) hdg (fun H1 locs1 a1 a2 a3 => kk _ _ _ _ (hr.set hb1 (zC.arr ht)) a1 a2 a3 hS2)
      · cases hz
    · cases hz
  · cases hz
theorem zastZ_ok (hx : p.tables.exec = Jvm.exec) (hb : c.code = cc) (hT : zTys tys) (hK : va_K D cl tys s) (hdg : decode cc pc = .ok (.bastore, 1)) (hr : zRel sa tys ad h ws) (hP : va_P D cl ws H) (hD : va_D A ws) (hS0 : va_S A s.heap H locs) (hS : zF sa ad st cs)
    (hz : zastZ h st = some (h', st')) (kk : ∀ (ws' : va_W) (H1 : Heap) (locs1 : List Loc) (cs' : List Value), zRel sa tys ad h' ws' → va_P D cl ws' H1 → va_D A ws' → va_S A s.heap H1 locs1 → zF sa ad st' cs' → W p l e R s m args below meth c H1 locs1 cells slots Q (F0 m (pc + 1) ls cs')) :
    W p l e R s m args below meth c H locs cells slots Q (F0 m pc ls cs) := by
  unfold zastZ at hz
  split at hz
  · next x i a r =>
    obtain ⟨cr0, rfl, hS0'⟩ := zF_i hS
    obtain ⟨cr, rfl, hS1⟩ := zF_i hS0'
    obtain ⟨ca, cr2, rfl, hva, hS2⟩ := zF_c hS1
    obtain ⟨b, hb1, rfl⟩ := hva
    split at hz
    · next t n f hi =>
      split at hz
      · next hc =>
        obtain ⟨rfl, hin⟩ := hc
        cases hz
        obtain ⟨cA, ty, hw, ht⟩ := hr.arr hi hb1
        cases (show ty = .boolean from hT.at1 ht)
        exact va_zast hx hb hK hP hD hS0 a 1 hw ht (zin_ok hin) hdg (fun H1 locs1 a1 a2 a3 => kk _ _ _ _ (hr.set hb1 (zC.arr ht)) a1 a2 a3 hS2)
      · cases hz
    · cases hz
  · cases hz
theorem zastL_ok (hx : p.tables.exec = Jvm.exec) (hb : c.code = cc) (hT : zTys tys) (hK : va_K D cl tys s) (hdg : decode cc pc = .ok (.lastore, 1)) (hr : zRel sa tys ad h ws) (hP : va_P D cl ws H) (hD : va_D A ws) (hS0 : va_S A s.heap H locs) (hS : zF sa ad st cs)
    (hz : zastL h st = some (h', st')) (kk : ∀ (ws' : va_W) (H1 : Heap) (locs1 : List Loc) (cs' : List Value), zRel sa tys ad h' ws' → va_P D cl ws' H1 → va_D A ws' → va_S A s.heap H1 locs1 → zF sa ad st' cs' → W p l e R s m args below meth c H1 locs1 cells slots Q (F0 m (pc + 1) ls cs')) :
    W p l e R s m args below meth c H locs cells slots Q (F0 m pc ls cs) := by
  unfold zastL at hz
  split at hz
  · next x i a r =>
    obtain ⟨cr0, rfl, hS0'⟩ := zF_l hS
    obtain ⟨cr, rfl, hS1⟩ := zF_i hS0'
    obtain ⟨ca, cr2, rfl, hva, hS2⟩ := zF_c hS1
    obtain ⟨b, hb1, rfl⟩ := hva
    split at hz
    · next t n f hi =>
      split at hz
      · next hc =>
        obtain ⟨rfl, hin⟩ := hc
        cases hz
        obtain ⟨cA, ty, hw, ht⟩ := hr.arr hi hb1
        cases (show ty = .long from hT.at2 ht)
        exact va_last hx hb hK hP hD hS0 a 2 hw ht (zin_ok hin) hdg (fun H1 locs1 a1 a2 a3 => kk _ _ _ _ (hr.set hb1 (zC.arr ht)) a1 a2 a3 hS2)
      · cases hz
    · cases hz
  · cases hz
theorem zastD_ok (hx : p.tables.exec = Jvm.exec) (hb : c.code = cc) (hT : zTys tys) (hK : va_K D cl tys s) (hdg : decode cc pc = .ok (.dastore, 1)) (hr : zRel sa tys ad h ws) (hP : va_P D cl ws H) (hD : va_D A ws) (hS0 : va_S A s.heap H locs) (hS : zF sa ad st cs)
    (hz : zastD h st = some (h', st')) (kk : ∀ (ws' : va_W) (H1 : Heap) (locs1 : List Loc) (cs' : List Value), zRel sa tys ad h' ws' → va_P D cl ws' H1 → va_D A ws' → va_S A s.heap H1 locs1 → zF sa ad st' cs' → W p l e R s m args below meth c H1 locs1 cells slots Q (F0 m (pc + 1) ls cs')) :
    W p l e R s m args below meth c H locs cells slots Q (F0 m pc ls cs) := by
  unfold zastD at hz
  split at hz
  · next x i a r =>
    obtain ⟨cr0, rfl, hS0'⟩ := zF_d hS
    obtain ⟨cr, rfl, hS1⟩ := zF_i hS0'
    obtain ⟨ca, cr2, rfl, hva, hS2⟩ := zF_c hS1
    obtain ⟨b, hb1, rfl⟩ := hva
    split at hz
    · next t n f hi =>
      split at hz
      · next hc =>
        obtain ⟨rfl, hin⟩ := hc
        cases hz
        obtain ⟨cA, ty, hw, ht⟩ := hr.arr hi hb1
        cases (show ty = .double from hT.at3 ht)
        exact va_dast hx hb hK hP hD hS0 a 3 hw ht (zin_ok hin) hdg (fun H1 locs1 a1 a2 a3 => kk _ _ _ _ (hr.set hb1 (zC.arr ht)) a1 a2 a3 hS2)
      · cases hz
    · cases hz
  · cases hz
theorem zalen_ok (hx : p.tables.exec = Jvm.exec) (hb : c.code = cc) (hK : va_K D cl tys s) (hdg : decode cc pc = .ok (.arraylength, 1)) (hr : zRel sa tys ad h ws) (hP : va_P D cl ws H) (hS : zF sa ad st cs)
    (hz : zalen h st = some st') (kk : ∀ cs', zF sa ad st' cs' → W p l e R s m args below meth c H locs cells slots Q (F0 m (pc + 1) ls cs')) :
    W p l e R s m args below meth c H locs cells slots Q (F0 m pc ls cs) := by
  unfold zalen at hz
  split at hz
  · next a r =>
    obtain ⟨ca, cr2, rfl, hva, hS2⟩ := zF_c hS
    obtain ⟨b, hb1, rfl⟩ := hva
    split at hz
    · next t x hi =>
      cases hz
      obtain ⟨cA, ty, hw, ht⟩ := hr.arr hi hb1
      exact va_alen hx hb hK hP a t hw ht rfl hdg (kk _ ⟨rfl, hS2⟩)
    · cases hz
  · cases hz
theorem znew_ok (hx : p.tables.exec = Jvm.exec) (hb : c.code = cc) (hts : ∀ w ∈ Ts, w.before args s = true) (hown : s.vm.findClass own = some m.cls) (hK : va_K D cl tys s) (hcls : zCls cl tyf Ts) (hnl : zNl cl Ts own nl) (hA : ∀ q, s.heap.size ≤ q → A q)
    {ix : Nat} (hdg : decode cc pc = .ok (.new ix, 3)) (hr : zRel sa tys ad h ws) (hP : va_P D cl ws H) (hD : va_D A ws) (hS0 : va_S A s.heap H locs) (hS : zF sa ad st cs)
    (hz : znew cl tyf nl ix h st = some (h', st', dn)) (hc1 : cells + 1 ≤ R.cells) (hc2 : slots + dn ≤ R.slots)
    (kk : ∀ (x : List Nat) (ws' : va_W) (H1 : Heap) (cs' : List Value), zRel sa tys (ad ++ x) h' ws' → va_P D cl ws' H1 → va_D A ws' → va_S A s.heap H1 locs → zF sa (ad ++ x) st' cs' → W p l e R s m args below meth c H1 locs (cells + 1) (slots + dn) Q (F0 m (pc + 3) ls cs')) :
    W p l e R s m args below meth c H locs cells slots Q (F0 m pc ls cs) := by
  unfold znew at hz
  split at hz
  · next ci hci =>
    split at hz
    · next q hq =>
      cases hz
      obtain ⟨q', hq', w1, w2, w3⟩ := hnl _ _ hci
      cases hq.symm.trans hq'
      obtain ⟨g1, g2, g3⟩ := hcls _ _ hq
      refine va_new hx hb hts g1 (tyf ci) g2 hown (hts _ w1) (hts _ w2) (hts _ w3) hK hP hD hS0 hA hq (fs := zdef tyf ci q.2.2) (fun j hj => by simp [vp_V, zdef, hj]) hc1 hc2 hdg (fun qa H1 a1 a2 a3 => ?_)
      refine kk [qa] _ _ _ (hr.push (zC.obj (zF_def _ _ _ _))) a1 a2 a3 ⟨⟨qa, by rw [← hr.1]; simp, rfl⟩, hS.mono _⟩
    · cases hz
  · cases hz
theorem znewa_ok (hx : p.tables.exec = Jvm.exec) (hb : c.code = cc) (hT : zTys tys) (hK : va_K D cl tys s) (hA : ∀ q, s.heap.size ≤ q → A q) {t : ArrayType} (harr : (Jvm.Cond.arrayClass (newarray.typeOf t)).before args s = true)
    (hdg : decode cc pc = .ok (.newarray t, 2)) (hr : zRel sa tys ad h ws) (hP : va_P D cl ws H) (hD : va_D A ws) (hS0 : va_S A s.heap H locs) (hS : zF sa ad st cs)
    (hz : znewa t h st = some (h', st', dn)) (hc1 : cells + 1 ≤ R.cells) (hc2 : slots + dn ≤ R.slots)
    (kk : ∀ (x : List Nat) (ws' : va_W) (H1 : Heap) (cs' : List Value), zRel sa tys (ad ++ x) h' ws' → va_P D cl ws' H1 → va_D A ws' → va_S A s.heap H1 locs → zF sa (ad ++ x) st' cs' → W p l e R s m args below meth c H1 locs (cells + 1) (slots + dn) Q (F0 m (pc + 2) ls cs')) :
    W p l e R s m args below meth c H locs cells slots Q (F0 m pc ls cs) := by
  unfold znewa at hz
  split at hz
  · next n r =>
    obtain ⟨cr, rfl, hS1⟩ := zF_i hS
    split at hz
    · cases hz
    · next hn =>
      have hn0 : ¬ n < 0 := fun q => hn (Or.inl q)
      have hn1 : n.toNatClampNeg ≤ 100000 := by
        rcases Nat.lt_or_ge 100000 n.toNatClampNeg with q | q
        · exact absurd (Or.inr q) hn
        · exact q
      have key : ∀ {ty : FieldType} {t0 : Nat} {cA c1 : ClassId}, tys[t0]? = some (c1, ty) → (∀ n, ty ≠ .object n) → va_K D cl (tys ++ [(cA, ty)]) s → cA = c1 := by
        intro ty t0 cA c1 h1 hty h2
        have a1 := (h2.2 t0 (c1, ty) (by rw [List.getElem?_append_left (List.getElem?_eq_some_iff.mp h1).1]; exact h1)).2
        have a2 := (h2.2 tys.length (cA, ty) (by simp)).2
        cases ty <;> first | exact absurd rfl (hty _) | exact Option.some.inj (a2.symm.trans a1)
      obtain ⟨ta, tb, tc, td, hte⟩ := id hT
      split at hz
      · cases hz
        refine va_newa hx hb harr rfl hK hP hD hS0 hA (a0 := (n.toNatClampNeg, .inl (fun _ => 0))) (fun cA => rfl) hn0 rfl (by simp only [newarray.typeOf, componentBytes]; omega) hc1 hc2 hdg (fun qa cA H1 a0 a1 a2 a3 => ?_)
        have ht : tys[0]? = some (ta, .int) := by rw [hte]; rfl
        cases key ht (fun n q => by cases q) a0
        refine kk [qa] _ _ _ (hr.push (zC.arr ht)) a1 a2 a3 ⟨⟨qa, by rw [← hr.1]; simp, rfl⟩, hS1.mono _⟩
      · cases hz
        refine va_newa hx hb harr rfl hK hP hD hS0 hA (a0 := (n.toNatClampNeg, .inl (fun _ => 0))) (fun cA => rfl) hn0 rfl (by simp only [newarray.typeOf, componentBytes]; omega) hc1 hc2 hdg (fun qa cA H1 a0 a1 a2 a3 => ?_)
        have ht : tys[1]? = some (tb, .boolean) := by rw [hte]; rfl
        cases key ht (fun n q => by cases q) a0
        refine kk [qa] _ _ _ (hr.push (zC.arr ht)) a1 a2 a3 ⟨⟨qa, by rw [← hr.1]; simp, rfl⟩, hS1.mono _⟩
      · cases hz
        refine va_newa hx hb harr rfl hK hP hD hS0 hA (a0 := (n.toNatClampNeg, .inr (.inl (fun _ => 0)))) (fun cA => rfl) hn0 rfl (by simp only [newarray.typeOf, componentBytes]; omega) hc1 hc2 hdg (fun qa cA H1 a0 a1 a2 a3 => ?_)
        have ht : tys[2]? = some (tc, .long) := by rw [hte]; rfl
        cases key ht (fun n q => by cases q) a0
        refine kk [qa] _ _ _ (hr.push (zC.arr ht)) a1 a2 a3 ⟨⟨qa, by rw [← hr.1]; simp, rfl⟩, hS1.mono _⟩
      · cases hz
        refine va_newa hx hb harr rfl hK hP hD hS0 hA (a0 := (n.toNatClampNeg, .inr (.inr (.inr (.inl (fun _ => 0)))))) (fun cA => rfl) hn0 rfl (by simp only [newarray.typeOf, componentBytes]; omega) hc1 hc2 hdg (fun qa cA H1 a0 a1 a2 a3 => ?_)
        have ht : tys[3]? = some (td, .double) := by rw [hte]; rfl
        cases key ht (fun n q => by cases q) a0
        refine kk [qa] _ _ _ (hr.push (zC.arr ht)) a1 a2 a3 ⟨⟨qa, by rw [← hr.1]; simp, rfl⟩, hS1.mono _⟩
      · cases hz
  · cases hz
end ZA
end
section
/-! a call that comes back, or throws -/
def zFE (s t : State) (L : List Loc) (k n : Nat) : Prop := s.WarmedH t.vm ∧ s.sameButNew ({ t with vm := s.vm } : State) L k n
def zMQ (below : List Frame) (Qc : Array Value → State → Outcome → State → Prop) (a : Array Value) (s : State) (mc ms : Nat) (free : Addr → Prop) : State → Prop := fun t =>
  ∃ o, t.status = .running ∧ Ended t below o ∧ Qc a s o t ∧ ∃ L, zFE s t L mc ms ∧ ∀ q ∈ L, free q.base
/-- a contract: the method returns or throws, and 'Qc' says what then holds -/
def zMet (l : Launch) (y : MethodName) (ws : List Jvm.Cond) (rm : Room) (Pc : Array Value → State → Prop) (Qc : Array Value → State → Outcome → State → Prop) (mc ms : Nat) (free : Addr → Prop) : Prop :=
  MetFree l y (headSpec ws rm) Pc (fun _ _ _ _ _ => True) (fun a st o t => Qc a st o t ∧ ∃ L, zFE st t L mc ms ∧ ∀ q ∈ L, free q.base)
section ZC
variable {p : Program} {l : Launch} {e : Env} {R : Room} {s : State} {m : MethodId} {sargs : Array Value} {below : List Frame} {meth : Method} {c : Code} {H : Heap} {locs : List Loc} {cells slots : Nat} {Q : State → Prop}
theorem W.mono {Q2 : State → Prop} {g : JFrame} (h : ∀ t, Q t → Q2 t) (k : W p l e R s m sargs below meth c H locs cells slots Q g) : W p l e R s m sargs below meth c H locs cells slots Q2 g := by
  intro T hT X
  obtain ⟨t, a, b⟩ := k T hT X
  exact ⟨t, a, h t b⟩
theorem zMQ.of {Qc : Array Value → State → Outcome → State → Prop} {a : Array Value} {mc ms : Nat} {free : Addr → Prop} {t : State} (h : MQ below Qc a s mc ms free t) : zMQ below Qc a s mc ms free t := by
  obtain ⟨o, h1, h2, h3, L, h4, h5⟩ := h
  exact ⟨o, h1, h2, h3, L, ⟨h4.2.1, h4.2.2⟩, h5⟩
theorem zback {y : MethodName} {ws : List Jvm.Cond} {rm : Room} {Pc : Array Value → State → Prop} {Qc : Array Value → State → Outcome → State → Prop} {mc ms W0 maxL len : Nat} {free : Addr → Prop}
    (hM : zMet l y ws rm Pc Qc mc ms free) {U : State} {Ls : List Loc} {c0 s0 : Nat} (X : Stand p l e R s m sargs below meth c U Ls c0 s0) {g : JFrame} (hg : g.method = m) (hsize : g.locals.size = c.maxLocals) {ig : Instr} (hdg : decode c.code g.pc = .ok (ig, len))
    (hW : 2 * g.monitorRoom + (g.stack.map fun v => v.category).sum ≤ W0) {mk : MethodId} (hn : U.methodNamed? y = some mk) {methY : Method} {cY : Code} (hmY : U.vm.method? mk = some methY) (hcY : methY.code = some cY) (hlY : cY.maxLocals = maxL)
    (hfr : rm.frames + 1 ≤ R.frames) (hlo : W0 + (maxL + 11) + rm.locals ≤ R.locals) (hrc : rm.cells = mc) (hrs : rm.slots = ms) (hc : c0 + mc ≤ R.cells) (hs : s0 + ms ≤ R.slots)
    {a : Array Value} (hws : ∀ w ∈ ws, w.before a U = true) (hini : (Jvm.Cond.initialized y.cls).before a U = true) (hP : Pc a (U.calling g mk a)) :
    ∃ (o : Outcome) (t : State) (L : List Loc), Stand p l e R s m sargs below meth c ((({ U with heap := t.heap, slotsUsed := t.slotsUsed } : State).setVm t.vm)) (Ls ++ L) (c0 + mc) (s0 + ms) ∧ (∀ q ∈ L, free q.base) ∧ Qc a (U.calling g mk a) o t ∧ U.WarmedH t.vm ∧
      (∀ v, o = .returned v → Steps p.tables e below (doInvoke e (U.setTop g) [] mk a).1 (((({ U with heap := t.heap, slotsUsed := t.slotsUsed } : State).setVm t.vm)).setTop { g with pc := g.pc + len, stack := v.toList ++ g.stack })) ∧
      (∀ b, o = .threw b → Steps p.tables e below (doInvoke e (U.setTop g) [] mk a).1 ((((({ U with heap := t.heap, slotsUsed := t.slotsUsed } : State).setVm t.vm)).setTop g).pushFrame (.throwing b))) := by
  obtain ⟨kY, hkY, -⟩ := className_of_methodNamed hn
  have hinitY : kY.init = .initialized := Cond.initialized_spec (findClass_of_methodNamed hn) hkY hini
  have h : At U g.method c below := by rw [hg]; exact X.here
  have happ : (headSpec ws rm).appliesLoose y e.platform (U.calling g mk a) = true :=
    Spec.appliesLoose_calling (g := g) h hdg hn hkY hinitY
      (X.room_calling (g := g) (R' := rm) hsize hmY hcY hfr (by rw [hlY]; omega) (by rw [hrc]; exact hc) (by rw [hrs]; exact hs)) (atoms_intro hws)
  obtain ⟨mid, hmid⟩ := h.above
  have hfr : (U.setTop g).frames = (.java g :: mid) ++ below := by rw [State.frames_setTop' g h.top, hmid]; rfl
  obtain ⟨o, s₂, hsteps, -, hend, hq⟩ := Steps.callFree hM p X.admits X.cas X.clock (acts := []) hfr happ hP trivial
  have hq : Qc a (U.calling g mk a) o s₂ ∧ ∃ L, zFE (U.calling g mk a) s₂ L mc ms ∧ ∀ q ∈ L, free q.base := hq
  rw [State.frames_setTop' g h.top] at hend
  obtain ⟨hq1, L, ⟨hW₂, e2, q2, q3, q4, q5, q6⟩, hL⟩ := hq
  have e3 : s₂ = ({ (U.calling g mk a).setFrames s₂.frames with heap := s₂.heap, slotsUsed := s₂.slotsUsed } : State).setVm s₂.vm := by
    have : s₂ = ({ s₂ with vm := (U.calling g mk a).vm } : State).setVm s₂.vm := rfl
    rw [e2] at this
    exact this
  have hW' : U.WarmedH s₂.vm := hW₂
  obtain ⟨g₀, hg0⟩ := Option.isSome_iff_exists.mp h.top
  obtain ⟨r, hr⟩ := State.topJava?_eq_some.mp hg0
  have hr' : (({ U with heap := s₂.heap, slotsUsed := s₂.slotsUsed } : State).setVm s₂.vm).frames = .java g₀ :: r := hr
  have hsame : U.sameButNew ({ U with heap := s₂.heap, slotsUsed := s₂.slotsUsed } : State) L mc ms := by
    refine ⟨?_, q2, q3, q4, q5, q6⟩
    obtain ⟨t, ht, -⟩ := State.frames_cons hr
    show ({ U with heap := s₂.heap, slotsUsed := s₂.slotsUsed } : State) = { U.setFrames U.frames with heap := s₂.heap, slotsUsed := s₂.slotsUsed }
    rw [State.setFrames_self ht]
  refine ⟨o, s₂, L, ⟨X.admits, X.cas, X.clock, X.frames, X.room, X.hears, X.method, X.code, (X.here.setHeapUsed s₂.heap s₂.slotsUsed).setVm hW'.alike, X.tail, State.WarmedH.trans X.warmed hW', X.limits, X.bytes, X.same.trans (hsame.setVm s.vm)⟩, hL, hq1, hW', ?_, ?_⟩
  · intro v hv
    subst hv
    obtain ⟨c₂, i₂, len₂, hc₂, hd₂, hf₂⟩ := hend
    have hcc : c₂ = c := by
      have h1 : s₂.code? g.method = U.code? g.method := by
        rw [State.code?_eq, State.code?_eq, hW'.alike.method?]
      exact Option.some.inj (hc₂.symm.trans (h1.trans h.code))
    subst hcc
    have hlen : len₂ = len := by rw [hdg] at hd₂; cases hd₂; rfl
    subst hlen
    have hs₂ : s₂ = (({ U with heap := s₂.heap, slotsUsed := s₂.slotsUsed } : State).setVm s₂.vm).setTop { g with pc := g.pc + len₂, stack := v.toList ++ g.stack } := by
      refine e3.trans ?_
      rw [hf₂, State.calling_eq h.top, State.setFrames_setFrames, State.setTop_of_frames _ hr', hr]
      rfl
    rw [← hs₂]
    exact hsteps
  · intro b hb
    subst hb
    have hf₂ : s₂.frames = .throwing b :: .java g :: U.frames.tail := hend
    have hs₂ : s₂ = ((({ U with heap := s₂.heap, slotsUsed := s₂.slotsUsed } : State).setVm s₂.vm).setTop g).pushFrame (.throwing b) := by
      refine e3.trans ?_
      rw [hf₂, State.calling_eq h.top, State.setFrames_setFrames, State.pushFrame, State.frames_setTop _ hr', State.setTop_of_frames _ hr', State.setFrames_setFrames, hr]
      rfl
    rw [← hs₂]
    exact hsteps
end ZC
end
section
/-! calls and throws as rows of a walk -/
section ZR
variable {p : Program} {l : Launch} {e : Env} {R : Room} {s : State} {m : MethodId} {sargs : Array Value} {below : List Frame} {meth : Method} {c : Code} {H : Heap} {locs : List Loc} {cells slots : Nat} {Q : State → Prop}
/-- the walk, with the exception b on its way over the frame g -/
def zWT (p : Program) (l : Launch) (e : Env) (R : Room) (s : State) (m : MethodId) (args : Array Value) (below : List Frame) (meth : Method) (c : Code) (H : Heap) (locs : List Loc) (cells slots : Nat) (Q : State → Prop) (b : Nat) (g : JFrame) : Prop :=
  ∀ T : State, T.heap = H → Stand p l e R s m args below meth c T locs cells slots → ∃ t, Steps p.tables e below ((T.setTop g).pushFrame (.throwing b)) t ∧ Q t
/-- no handler covers the place: the method throws -/
theorem zWT.out {Qc : Array Value → State → Outcome → State → Prop} {free : Addr → Prop} {b : Nat} {g : JFrame} (hg : g.method = m) (hlocked : g.locked = none) (hentered : g.entered = []) (hout : ∀ x ∈ c.exceptionTable.toList, covers x g.pc = false) (hlocks : meth.locks = false)
    (hq : ∀ t : State, t.heap = H → s.WarmedH t.vm → Qc sargs s (.threw b) t) (hf : ∀ q ∈ locs, free q.base) : zWT p l e R s m sargs below meth c H locs cells slots (zMQ below Qc sargs s cells slots free) b g := by
  intro T hT X
  obtain ⟨h1, h2, h3, h4, h5⟩ := X.leaveThrown b hg hlocked hentered hout
  exact ⟨_, h1, .threw b, h2, h3, hq _ hT h4, locs, ⟨h4, h5⟩, hf⟩
variable {y : MethodName} {ws : List Jvm.Cond} {rm : Room} {Pc : Array Value → State → Prop} {Qc : Array Value → State → Outcome → State → Prop} {mc ms maxL pc ix : Nat} {free : Addr → Prop} {cc : ByteArray} {own : String} {ls : Array Slot} {As rest : List Value} {b : Nat}
/-- what the tables say of the callee -/
def zCode (y : MethodName) (maxL : Nat) (s : State) (args : Array Value) : Prop := ∃ (bytes : ByteArray) (ret : Option FieldType), (Jvm.Cond.code y bytes maxL ret).before args s = true ∨ ∃ hh, (Jvm.Cond.codeWith y bytes maxL ret hh).before args s = true
theorem zCode.spec (h : zCode y maxL s sargs) : ∃ (mk : MethodId) (methY : Method) (cY : Code), s.methodNamed? y = some mk ∧ s.vm.method? mk = some methY ∧ methY.code = some cY ∧ cY.maxLocals = maxL ∧ parseMethodDescriptor y.desc = some methY.sig := by
  obtain ⟨bytes, ret, h | ⟨hh, h⟩⟩ := h
  · obtain ⟨mk, hn⟩ := Cond.code_named h
    obtain ⟨methY, cY, h1, h2, -, h3, -, -, -, h5⟩ := Cond.code_spec hn h
    exact ⟨mk, methY, cY, hn, h1, h2, h3, h5⟩
  · obtain ⟨mk, methY, cY, hn, h1, h2, -, h3, -, -, -, h5⟩ := Cond.codeWith_spec h
    exact ⟨mk, methY, cY, hn, h1, h2, h3, h5⟩
/-- behind the entering of the callee: the two ways on -/
theorem zgo (hM : zMet l y ws rm Pc Qc mc ms free) (hb : c.code = cc) {T : State} {vm₁ : Vm} (X₁ : Stand p l e R s m sargs below meth c (T.setVm vm₁) locs cells slots) (hT : T.heap = H) {nL : Nat} (hml : c.maxLocals = nL) (hsize : ls.size = nL) {ig : Instr} (hdg : decode cc pc = .ok (ig, 3))
    (hst : (rest.map fun v => v.category).sum ≤ 16) (hcode : zCode y maxL s sargs) {mk : MethodId} (hn : s.methodNamed? y = some mk) (hws : ∀ w ∈ ws, ∀ (a' : Array Value) (U : State), s.WarmedH U.vm → w.before a' U = true) (hini : (Jvm.Cond.initialized y.cls).before sargs s = true)
    (hfr : rm.frames + 1 ≤ R.frames) (hlo : 16 + (maxL + 11) + rm.locals ≤ R.locals) (hrc : rm.cells = mc) (hrs : rm.slots = ms) (hc : cells + mc ≤ R.cells) (hs : slots + ms ≤ R.slots) {a : Array Value}
    (hP : ∀ U : State, U.heap = H → s.WarmedH U.vm → Pc a U)
    (kr : ∀ (v : Option Value) (st t : State) (L : List Loc), st.heap = H → s.WarmedH st.vm → st.WarmedH t.vm → Qc a st (.returned v) t → (∀ q ∈ L, free q.base) → W p l e R s m sargs below meth c t.heap (locs ++ L) (cells + mc) (slots + ms) Q (F0 m (pc + 3) ls (v.toList ++ rest)))
    (kt : ∀ (b : Nat) (st t : State) (L : List Loc), st.heap = H → s.WarmedH st.vm → st.WarmedH t.vm → Qc a st (.threw b) t → (∀ q ∈ L, free q.base) → zWT p l e R s m sargs below meth c t.heap (locs ++ L) (cells + mc) (slots + ms) Q b (F0 m pc ls rest)) :
    ∃ t, Steps p.tables e below (doInvoke e ((T.setVm vm₁).setTop (F0 m pc ls rest)) [] mk a).1 t ∧ Q t := by
  obtain ⟨mk', methY, cY, hn', hmY, hcY, hlY, -⟩ := hcode.spec
  cases hn.symm.trans hn'
  have hW₁ : s.WarmedH vm₁ := X₁.warmed
  obtain ⟨o, t, L, X', hL, hq, hWt, s1, s2⟩ := zback (a := a) (W0 := 16) (mk := mk) hM X₁ (g := F0 m pc ls rest) rfl (hsize.trans hml.symm) (by rw [hb]; exact hdg) (by show 2 * 0 + (rest.map fun v => v.category).sum ≤ 16; omega)
    (X₁.named hn) (show (T.setVm vm₁).vm.method? mk = some methY by rw [show (T.setVm vm₁).vm = vm₁ from rfl, hW₁.alike.method?]; exact hmY) hcY hlY hfr hlo hrc hrs hc hs
    (fun w hw => hws w hw _ _ hW₁) (word_at hW₁ (Or.inl (by first | rfl | simp [Jvm.Cond.onTables, Jvm.Cond.keeps, Jvm.Cond.steady])) hini) (hP _ hT hW₁)
  cases o with
  | returned v =>
    obtain ⟨t2, a1, b1⟩ := kr v ((T.setVm vm₁).calling (F0 m pc ls rest) mk a) t L hT hW₁ hWt hq hL ((({ T.setVm vm₁ with heap := t.heap, slotsUsed := t.slotsUsed } : State).setVm t.vm)) rfl X'
    exact ⟨t2, (s1 v rfl).trans a1, b1⟩
  | threw b =>
    obtain ⟨t2, a1, b1⟩ := kt b ((T.setVm vm₁).calling (F0 m pc ls rest) mk a) t L hT hW₁ hWt hq hL ((({ T.setVm vm₁ with heap := t.heap, slotsUsed := t.slotsUsed } : State).setVm t.vm)) rfl X'
    exact ⟨t2, (s2 b rfl).trans a1, b1⟩
/-- the method's link: its own, or a nest mate's -/
def zLk (own : String) (ix : Nat) (y : MethodName) (s : State) (args : Array Value) : Prop := (Jvm.Cond.methodLink own ix y).before args s = true ∨ ∃ host, (Jvm.Cond.methodLinkNest own ix y host).before args s = true
theorem zcallS (hx : p.tables.exec = Jvm.exec) (hb : c.code = cc) (hown : s.vm.findClass own = some m.cls) (hM : zMet l y ws rm Pc Qc mc ms free) (hlk : zLk own ix y s sargs) (hstat : (Jvm.Cond.static y).before sargs s = true) (hy : y.cls ≠ "java/lang/invoke/MethodHandle" ∧ y.cls ≠ "java/lang/invoke/VarHandle")
    {nL : Nat} (hml : c.maxLocals = nL) (hsize : ls.size = nL) (hdg : decode cc pc = .ok (.invokestatic ix, 3)) (hlen : (parseMethodDescriptor y.desc).map (fun d => d.parameters.length) = some As.length)
    (hst : (rest.map fun v => v.category).sum ≤ 16) (hcode : zCode y maxL s sargs) (hws : ∀ w ∈ ws, ∀ (a' : Array Value) (U : State), s.WarmedH U.vm → w.before a' U = true) (hini : (Jvm.Cond.initialized y.cls).before sargs s = true)
    (hfr : rm.frames + 1 ≤ R.frames) (hlo : 16 + (maxL + 11) + rm.locals ≤ R.locals) (hrc : rm.cells = mc) (hrs : rm.slots = ms) (hc : cells + mc ≤ R.cells) (hs : slots + ms ≤ R.slots)
    (hP : ∀ U : State, U.heap = H → s.WarmedH U.vm → Pc As.toArray U)
    (kr : ∀ (v : Option Value) (st t : State) (L : List Loc), st.heap = H → s.WarmedH st.vm → st.WarmedH t.vm → Qc As.toArray st (.returned v) t → (∀ q ∈ L, free q.base) → W p l e R s m sargs below meth c t.heap (locs ++ L) (cells + mc) (slots + ms) Q (F0 m (pc + 3) ls (v.toList ++ rest)))
    (kt : ∀ (b : Nat) (st t : State) (L : List Loc), st.heap = H → s.WarmedH st.vm → st.WarmedH t.vm → Qc As.toArray st (.threw b) t → (∀ q ∈ L, free q.base) → zWT p l e R s m sargs below meth c t.heap (locs ++ L) (cells + mc) (slots + ms) Q b (F0 m pc ls rest)) :
    W p l e R s m sargs below meth c H locs cells slots Q (F0 m pc ls (As.reverse ++ rest)) := by
  intro T hT X
  obtain ⟨mk, methY, cY, hn, hmY, hcY, hlY, hsig⟩ := id hcode.spec
  have hstatic : methY.isStatic = true := Cond.static_spec hn hmY hstat
  obtain ⟨kP, hkP, -⟩ := className_of_methodNamed hn
  have hinitP : kP.init = .initialized := Cond.initialized_spec (findClass_of_methodNamed hn) hkP hini
  have hl : As.length = methY.sig.parameters.length := by rw [hsig] at hlen; exact (Option.some.inj hlen).symm
  obtain ⟨vm₁, X₁, hstep₁⟩ : ∃ vm₁, Stand p l e R s m sargs below meth c (T.setVm vm₁) locs cells slots ∧ ∀ target, (∀ acts, Steps p.tables e below (doInvoke e ((T.setVm vm₁).setTop (F0 m pc ls rest)) acts mk As.toArray).1 target) → Steps p.tables e below (T.setTop (F0 m pc ls (As.reverse ++ rest))) target := by
    rcases hlk with hlk | ⟨host, hlk⟩
    · exact X.invokestatic hx hown hlk hn hmY hstatic hkP hinitP hy (g := F0 m pc ls (As.reverse ++ rest)) rfl (argsL := As) (rest := rest) hl rfl (by rw [hb]; exact hdg)
    · exact X.invokestaticNest hx hown hlk hn hmY hstatic hkP hinitP hy (g := F0 m pc ls (As.reverse ++ rest)) rfl (argsL := As) (rest := rest) hl rfl (by rw [hb]; exact hdg)
  obtain ⟨t, a1, b1⟩ := zgo hM hb X₁ hT hml hsize hdg hst hcode hn hws hini hfr hlo hrc hrs hc hs hP kr kt
  exact ⟨t, hstep₁ _ fun acts => by rw [doInvoke_state]; exact a1, b1⟩
theorem zcallV (hx : p.tables.exec = Jvm.exec) (hb : c.code = cc) (hown : s.vm.findClass own = some m.cls) (hM : zMet l y ws rm Pc Qc mc ms free) (hlk : zLk own ix y s sargs) (hinst : (Jvm.Cond.instanceMethod y).before sargs s = true) {C0 : String} (hsel : (Jvm.Cond.selects C0 y y).before sargs s = true) (hy : y.cls ≠ "java/lang/invoke/MethodHandle" ∧ y.cls ≠ "java/lang/invoke/VarHandle")
    {b : Nat} {cellB : Cell} (hcell : H[b]? = some cellB) (hobj : cellB.vm.isStatics = false) (hcls : s.vm.findClass C0 = some cellB.cls)
    {nL : Nat} (hml : c.maxLocals = nL) (hsize : ls.size = nL) (hdg : decode cc pc = .ok (.invokevirtual ix, 3)) (hlen : (parseMethodDescriptor y.desc).map (fun d => d.parameters.length) = some As.length)
    (hst : (rest.map fun v => v.category).sum ≤ 16) (hcode : zCode y maxL s sargs) (hws : ∀ w ∈ ws, ∀ (a' : Array Value) (U : State), s.WarmedH U.vm → w.before a' U = true) (hini : (Jvm.Cond.initialized y.cls).before sargs s = true)
    (hfr : rm.frames + 1 ≤ R.frames) (hlo : 16 + (maxL + 11) + rm.locals ≤ R.locals) (hrc : rm.cells = mc) (hrs : rm.slots = ms) (hc : cells + mc ≤ R.cells) (hs : slots + ms ≤ R.slots)
    (hP : ∀ U : State, U.heap = H → s.WarmedH U.vm → Pc (Value.ref b :: As).toArray U)
    (kr : ∀ (v : Option Value) (st t : State) (L : List Loc), st.heap = H → s.WarmedH st.vm → st.WarmedH t.vm → Qc (Value.ref b :: As).toArray st (.returned v) t → (∀ q ∈ L, free q.base) → W p l e R s m sargs below meth c t.heap (locs ++ L) (cells + mc) (slots + ms) Q (F0 m (pc + 3) ls (v.toList ++ rest)))
    (kt : ∀ (x : Nat) (st t : State) (L : List Loc), st.heap = H → s.WarmedH st.vm → st.WarmedH t.vm → Qc (Value.ref b :: As).toArray st (.threw x) t → (∀ q ∈ L, free q.base) → zWT p l e R s m sargs below meth c t.heap (locs ++ L) (cells + mc) (slots + ms) Q x (F0 m pc ls rest)) :
    W p l e R s m sargs below meth c H locs cells slots Q (F0 m pc ls (As.reverse ++ .ref b :: rest)) := by
  intro T hT X
  obtain ⟨mk, methY, cY, hn, hmY, hcY, hlY, hsig⟩ := id hcode.spec
  obtain ⟨mk', methM, hnamed, hmethM, hstM, habM⟩ := Cond.instanceMethod_spec hinst
  cases hn.symm.trans hnamed
  cases hmY.symm.trans hmethM
  obtain ⟨c2, r2, m2, q1, q2, q3, q4, kP, hkP, hkPi⟩ := Cond.selects_spec hsel
  cases hcls.symm.trans q1
  cases (State.methodFound?_of_named hn hy).symm.trans q2
  cases hn.symm.trans q3
  have hselP : selectMethod e.platform s.vm cellB.cls mk = .method mk := by rw [Launch.admits_selectMethod X.admits]; exact q4
  have hl : As.length = methY.sig.parameters.length := by rw [hsig] at hlen; exact (Option.some.inj hlen).symm
  obtain ⟨vm₁, X₁, hstep₁⟩ : ∃ vm₁, Stand p l e R s m sargs below meth c (T.setVm vm₁) locs cells slots ∧ ∀ target, (∀ acts, Steps p.tables e below (doInvoke e ((T.setVm vm₁).setTop (F0 m pc ls rest)) acts mk (Value.ref b :: As).toArray).1 target) → Steps p.tables e below (T.setTop (F0 m pc ls (As.reverse ++ .ref b :: rest))) target := by
    rcases hlk with hlk | ⟨host, hlk⟩
    · exact X.invokevirtual hx hown hlk hn hmY hstM hkP hkPi hy (a := b) (cell := cellB) (by rw [hT]; exact hcell) (fun z h => by rw [h] at hobj; cases hobj) hselP hmY habM hkP hkPi (g := F0 m pc ls (As.reverse ++ .ref b :: rest)) rfl (argsL := As) (rest := rest) hl rfl (by rw [hb]; exact hdg)
    · exact X.invokevirtualNest hx hown hlk hn hmY hstM hkP hkPi hy (a := b) (cell := cellB) (by rw [hT]; exact hcell) (fun z h => by rw [h] at hobj; cases hobj) hselP hmY habM hkP hkPi (g := F0 m pc ls (As.reverse ++ .ref b :: rest)) rfl (argsL := As) (rest := rest) hl rfl (by rw [hb]; exact hdg)
  obtain ⟨t, a1, b1⟩ := zgo hM hb X₁ hT hml hsize hdg hst hcode hn hws hini hfr hlo hrc hrs hc hs hP kr kt
  exact ⟨t, hstep₁ _ fun acts => by rw [doInvoke_state]; exact a1, b1⟩
end ZR
end
section
/-! constructors' calls; a throw -/
section ZI
variable {p : Program} {l : Launch} {e : Env} {R : Room} {s : State} {m : MethodId} {sargs : Array Value} {below : List Frame} {meth : Method} {c : Code} {H : Heap} {locs : List Loc} {cells slots : Nat} {Q : State → Prop}
variable {y : MethodName} {ws : List Jvm.Cond} {rm : Room} {Pc : Array Value → State → Prop} {Qc : Array Value → State → Outcome → State → Prop} {mc ms maxL pc ix : Nat} {free : Addr → Prop} {cc : ByteArray} {own : String} {ls : Array Slot} {As rest : List Value} {b : Nat}
theorem zcallI (hx : p.tables.exec = Jvm.exec) (hb : c.code = cc) (hown : s.vm.findClass own = some m.cls) (hM : zMet l y ws rm Pc Qc mc ms free) (hlk : zLk own ix y s sargs) (hy1 : y.name = "<init>") (hinst : (Jvm.Cond.instanceMethod y).before sargs s = true) (hy : y.cls ≠ "java/lang/invoke/MethodHandle" ∧ y.cls ≠ "java/lang/invoke/VarHandle")
    {nL : Nat} (hml : c.maxLocals = nL) (hsize : ls.size = nL) (hdg : decode cc pc = .ok (.invokespecial ix, 3)) (hlen : (parseMethodDescriptor y.desc).map (fun d => d.parameters.length) = some As.length)
    (hst : (rest.map fun v => v.category).sum ≤ 16) {bytes : ByteArray} (hcode : (Jvm.Cond.code y bytes maxL none).before sargs s = true) (hws : ∀ w ∈ ws, ∀ (a' : Array Value) (U : State), s.WarmedH U.vm → w.before a' U = true) (hini : (Jvm.Cond.initialized y.cls).before sargs s = true)
    (hfr : rm.frames + 1 ≤ R.frames) (hlo : 16 + (maxL + 11) + rm.locals ≤ R.locals) (hrc : rm.cells = mc) (hrs : rm.slots = ms) (hc : cells + mc ≤ R.cells) (hs : slots + ms ≤ R.slots)
    (hP : ∀ U : State, U.heap = H → s.WarmedH U.vm → Pc (Value.ref b :: As).toArray U)
    (kr : ∀ (v : Option Value) (st t : State) (L : List Loc), st.heap = H → s.WarmedH st.vm → st.WarmedH t.vm → Qc (Value.ref b :: As).toArray st (.returned v) t → (∀ q ∈ L, free q.base) → W p l e R s m sargs below meth c t.heap (locs ++ L) (cells + mc) (slots + ms) Q (F0 m (pc + 3) ls (v.toList ++ rest)))
    (kt : ∀ (x : Nat) (st t : State) (L : List Loc), st.heap = H → s.WarmedH st.vm → st.WarmedH t.vm → Qc (Value.ref b :: As).toArray st (.threw x) t → (∀ q ∈ L, free q.base) → zWT p l e R s m sargs below meth c t.heap (locs ++ L) (cells + mc) (slots + ms) Q x (F0 m pc ls rest)) :
    W p l e R s m sargs below meth c H locs cells slots Q (F0 m pc ls (As.reverse ++ .ref b :: rest)) := by
  intro T hT X
  have hco : zCode y maxL s sargs := ⟨bytes, none, Or.inl hcode⟩
  obtain ⟨mk0, methY, cY, hn, hmY, hcY, hlY, hsig⟩ := id hco.spec
  have hl : ∀ sig, parseMethodDescriptor y.desc = some sig → As.length = sig.parameters.length := fun sig h => by rw [h] at hlen; exact (Option.some.inj hlen).symm
  have hpl : e.platform.magicAccessors = ({} : Platform).magicAccessors := by rw [X.admits.platform]
  obtain ⟨mk, vm₁, hnk, X₁, hstep₁⟩ : ∃ mk vm₁, s.methodNamed? y = some mk ∧ Stand p l e R s m sargs below meth c (T.setVm vm₁) locs cells slots ∧ ∀ target, (∀ acts, Steps p.tables e below (doInvoke e ((T.setVm vm₁).setTop (F0 m pc ls rest)) acts mk (Value.ref b :: As).toArray).1 target) → Steps p.tables e below (T.setTop (F0 m pc ls (As.reverse ++ .ref b :: rest))) target := by
    rcases hlk with hlk | ⟨host, hlk⟩
    · obtain ⟨mk, methM, cM, kP, vm₁, hnamed, -, -, -, -, -, -, -, hW₁, hstep₁⟩ := Steps.initColdArgs (e := e) X.here hx X.warmed hpl hown hy1 hy hlk hinst hcode (f := F0 m pc ls (As.reverse ++ .ref b :: rest)) rfl hl rfl (by rw [hb]; exact hdg)
      exact ⟨mk, vm₁, hnamed, X.noted hW₁, hstep₁⟩
    · obtain ⟨mk, methM, cM, kP, vm₁, hnamed, -, -, -, -, -, -, -, hW₁, hstep₁⟩ := Steps.initColdArgsNest (e := e) X.here hx X.warmed hpl hown hy1 hy hlk hinst hcode (f := F0 m pc ls (As.reverse ++ .ref b :: rest)) rfl hl rfl (by rw [hb]; exact hdg)
      exact ⟨mk, vm₁, hnamed, X.noted hW₁, hstep₁⟩
  obtain ⟨t, a1, b1⟩ := zgo hM hb X₁ hT hml hsize hdg hst hco hnk hws hini hfr hlo hrc hrs hc hs hP kr kt
  exact ⟨t, hstep₁ _ fun acts => by rw [doInvoke_state]; exact a1, b1⟩
theorem zathrow (hx : p.tables.exec = Jvm.exec) (hb : c.code = cc) (hdg : decode cc pc = .ok (.athrow, 1)) (k : zWT p l e R s m sargs below meth c H locs cells slots Q b (F0 m pc ls rest)) :
    W p l e R s m sargs below meth c H locs cells slots Q (F0 m pc ls (.ref b :: rest)) := by
  intro T hT X
  obtain ⟨t, a, b⟩ := k T hT X
  refine ⟨t, ?_, b⟩
  jvm_step X.here [hx, hb, hdg, athrow.wp_sem]
  exact a
end ZI
end
section
/-! the run of a method, and of the methods that it calls -/
/-- a method: its class' number, name, code, locals, answer, whether it is a constructor, its handlers (from, to, place, exception's number) -/
abbrev zM : Type := Nat × MethodName × ByteArray × Nat × Option FieldType × Bool × List (Nat × Nat × Nat × Nat)
/-- the tables: classes' names by their numbers; the classes of objects, by the same numbers; field types; by a class' number and its pool's number: fields, classes made, constants, methods called (method, kind, arguments), exceptions made (exception, its constructor's pool number); methods; the classes of the objects that were there before; what is left to others -/
abbrev zTb : Type := (Nat → Option String) × List vw_C × (Nat → Nat → FieldType) × (Nat → Nat → Option (Nat × Nat)) × (Nat → Nat → Option Nat) × (Nat → Nat → Option Value) × (Nat → Nat → Option (Nat × Nat × Nat)) × (Nat → Nat → Option (Nat × Nat)) × (Nat → Option zM) × (Nat → Option Nat) × (Nat → Instr → List Value → Option (List Value))
def zTcn (T : zTb) : Nat → Option String := T.1
def zTcl (T : zTb) : List vw_C := T.2.1
def zTty (T : zTb) : Nat → Nat → FieldType := T.2.2.1
def zTfl (T : zTb) : Nat → Nat → Option (Nat × Nat) := T.2.2.2.1
def zTnl (T : zTb) : Nat → Nat → Option Nat := T.2.2.2.2.1
def zTkl (T : zTb) : Nat → Nat → Option Value := T.2.2.2.2.2.1
def zTml (T : zTb) : Nat → Nat → Option (Nat × Nat × Nat) := T.2.2.2.2.2.2.1
def zTxl (T : zTb) : Nat → Nat → Option (Nat × Nat) := T.2.2.2.2.2.2.2.1
def zTms (T : zTb) : Nat → Option zM := T.2.2.2.2.2.2.2.2.1
def zTsk (T : zTb) : Nat → Option Nat := T.2.2.2.2.2.2.2.2.2.1
def zText (T : zTb) : Nat → Instr → List Value → Option (List Value) := T.2.2.2.2.2.2.2.2.2.2
abbrev zO : Type := Option Value ⊕ Nat
abbrev zG : Type := Nat × zL × List Value × zH
abbrev zRs : Type := zO × zH × Nat × Nat
abbrev zStp : Type := (zG × Nat × Nat) ⊕ (zRs ⊕ (Nat × List Value × Nat × zL × List Value × zH))
def zkI (o : Option Value) (st : List Value) : Option (List Value) := match o with
  | some (.int x) => some (.int x :: st)
  | _ => none
def zkL (o : Option Value) (st : List Value) : Option (List Value) := match o with
  | some (.long x) => some (.long x :: st)
  | some (.double x) => some (.double x :: st)
  | _ => none
def zmem (T : zTb) (k : Nat) (i : Instr) (h : zH) (st : List Value) : Option (List Value) := match i with
  | .getfield ix => zgetf (zTfl T k) ix h st
  | .iaload => zaldI h st
  | .baload => zaldZ h st
  | .laload => zaldL h st
  | .daload => zaldD h st
  | .arraylength => zalen h st
  | .ldc ix => zkI (zTkl T k ix) st
  | .ldc_w ix => zkI (zTkl T k ix) st
  | .ldc2_w ix => zkL (zTkl T k ix) st
  | _ => none
def zwr (T : zTb) (k : Nat) (init : Bool) (i : Instr) (h : zH) (st : List Value) : Option (zH × List Value) := match i with
  | .putfield ix => zputf (zTcl T) (zTty T) init k (zTfl T k) ix h st
  | .iastore => zastI h st
  | .bastore => zastZ h st
  | .lastore => zastL h st
  | .dastore => zastD h st
  | _ => none
def znw (T : zTb) (k : Nat) (i : Instr) (h : zH) (st : List Value) : Option (zH × List Value × Nat) := match i with
  | .new ix => znew (zTcl T) (zTty T) (zTnl T k) ix h st
  | .newarray t => znewa t h st
  | _ => none
def zcat (st : List Value) : Nat := (st.map fun v => v.category).sum
/-- new, dup, the constructor, athrow: a new exception, in a method without handlers -/
def zth (T : zTb) (k : Nat) (cc : ByteArray) (hs : List (Nat × Nat × Nat × Nat)) (pc : Nat) (i : Instr) (st : List Value) : Option Nat := match i with
  | .new ix => match zTxl T k ix with
    | some (xi, ic) => match decode cc (pc + 3), decode cc (pc + 4), decode cc (pc + 7) with
      | .ok (.dup, 1), .ok (.invokespecial j, 3), .ok (.athrow, 1) => if j = ic ∧ hs.isEmpty = true ∧ zcat st ≤ 16 then some xi else none
      | _, _, _ => none
    | none => none
  | _ => none
def zoi (T : zTb) (k : Nat) (i : Instr) (st : List Value) : Option (List Value) := match i with
  | .invokespecial ix => match zTml T k ix with
    | some (_, 3, _) => match st with
      | .ref _ :: r => if zcat r ≤ 16 then some r else none
      | _ => none
    | _ => none
  | _ => none
def zargs (n : Nat) (st : List Value) : Option (List Value × List Value) := if n ≤ st.length then some ((st.take n).reverse, st.drop n) else none
/-- a call: the method, its arguments, what stays on the stack -/
def zcl (T : zTb) (k : Nat) (i : Instr) (h : zH) (st : List Value) : Option (Nat × List Value × List Value) := match i with
  | .invokestatic ix => match zTml T k ix with
    | some (mi, 0, n) => match zargs n st with
      | some (as, r) => if zcat r ≤ 16 then some (mi, as, r) else none
      | none => none
    | _ => none
  | .invokevirtual ix => match zTml T k ix with
    | some (mi, 1, n) => match zargs n st, zTms T mi with
      | some (as, .ref b :: r), some M => match h[b]? with
        | some (.inr (ci, _)) => if ci = M.1 ∧ zcat r ≤ 16 then some (mi, .ref b :: as, r) else none
        | _ => none
      | some (as, .retAddr b :: r), some M => match zTsk T b with
        | some ci => if ci = M.1 ∧ zcat r ≤ 16 then some (mi, .retAddr b :: as, r) else none
        | none => none
      | _, _ => none
    | _ => none
  | .invokespecial ix => match zTml T k ix with
    | some (mi, 2, n) => match zargs n st with
      | some (as, .ref b :: r) => if zcat r ≤ 16 then some (mi, .ref b :: as, r) else none
      | _ => none
    | _ => none
  | _ => none
def zrt (ret : Option FieldType) (i : Instr) (st : List Value) : Option (Option Value) := match i with
  | .ireturn => match ret, st with
    | some .int, [.int x] => some (some (.int x))
    | some .boolean, [.int x] => if x = 0 ∨ x = 1 then some (some (.int x)) else none
    | some .byte, [.int x] => if narrow .byte (.int x) = .int x then some (some (.int x)) else none
    | some .char, [.int x] => if narrow .char (.int x) = .int x then some (some (.int x)) else none
    | _, _ => none
  | .lreturn => match ret, st with
    | some .long, [.long x] => some (some (.long x))
    | _, _ => none
  | .dreturn => match ret, st with
    | some .double, [.double x] => some (some (.double x))
    | _, _ => none
  | .return_ => match ret, st with
    | none, [] => some none
    | _, _ => none
  | .areturn => match ret, st with
    | some (.object _), [.ref x] => some (some (.ref x))
    | some (.object _), [.retAddr x] => some (some (.retAddr x))
    | _, _ => none
  | _ => none
/-- one instruction: it goes on, or the method ends, or a call is due -/
def zstep (T : zTb) (M : zM) (g : zG) : Option zStp := match decode M.2.2.1 g.1 with
  | .error _ => none
  | .ok (i, len) => match zbr g.1 len i g.2.2.1 with
    | some (pc', st') => some (.inl ((pc', g.2.1, st', g.2.2.2), 0, 0))
    | none => if len = zlen i then
        match zpure M.2.2.2.1 i g.2.1 g.2.2.1 with
        | some (l', st') => some (.inl ((g.1 + len, l', st', g.2.2.2), 0, 0))
        | none => match zmem T M.1 i g.2.2.2 g.2.2.1 with
          | some st' => some (.inl ((g.1 + len, g.2.1, st', g.2.2.2), 0, 0))
          | none => match zwr T M.1 M.2.2.2.2.2.1 i g.2.2.2 g.2.2.1 with
            | some (h', st') => some (.inl ((g.1 + len, g.2.1, st', h'), 0, 0))
            | none => match zth T M.1 M.2.2.1 M.2.2.2.2.2.2 g.1 i g.2.2.1 with
              | some xi => some (.inr (.inl (.inr xi, g.2.2.2, 1, 6)))
              | none => match znw T M.1 i g.2.2.2 g.2.2.1 with
                | some (h', st', dn) => some (.inl ((g.1 + len, g.2.1, st', h'), 1, dn))
                | none => match zoi T M.1 i g.2.2.1 with
                  | some st' => some (.inl ((g.1 + len, g.2.1, st', g.2.2.2), 0, 0))
                  | none => match zcl T M.1 i g.2.2.2 g.2.2.1 with
                    | some (mi, as, r) => some (.inr (.inr (mi, as, g.1, g.2.1, r, g.2.2.2)))
                    | none => match zrt M.2.2.2.2.1 i g.2.2.1 with
                      | some v => some (.inr (.inl (.inl v, g.2.2.2, 0, 0)))
                      | none => match zText T M.1 i g.2.2.1 with
                        | some st' => some (.inl ((g.1 + len, g.2.1, st', g.2.2.2), 0, 0))
                        | none => none
      else none
def zadd (dc ds : Nat) (r : zRs) : zRs := (r.1, r.2.1, dc + r.2.2.1, ds + r.2.2.2)
def zhand (hs : List (Nat × Nat × Nat × Nat)) (pc x : Nat) : Option Nat := (hs.find? (fun q => decide (q.1 ≤ pc) && decide (pc < q.2.1) && q.2.2.2 == x)).map (fun q => q.2.2.1)
def zcov (hs : List (Nat × Nat × Nat × Nat)) (pc : Nat) : Bool := hs.any (fun q => decide (q.1 ≤ pc) && decide (pc < q.2.1))
def zRun (T : zTb) (C : Nat → List Value → zH → zRs → Prop) (M : zM) : Nat → zG → zRs → Prop
  | 0, _, _ => False
  | n + 1, g, r => match zstep T M g with
    | none => False
    | some (.inl (g', dc, ds)) => ∃ r', zRun T C M n g' r' ∧ r = zadd dc ds r'
    | some (.inr (.inl e)) => r = e
    | some (.inr (.inr (mi, as, pc, l, rest, h))) => ∃ rc, C mi as h rc ∧ match rc.1 with
      | .inl v => ∃ r', zRun T C M n (pc + 3, l, v.toList ++ rest, rc.2.1) r' ∧ r = zadd rc.2.2.1 rc.2.2.2 r'
      | .inr x => match zhand M.2.2.2.2.2.2 pc x with
        | some hp => ∃ r', zRun T C M n (hp, l, [.retAddr 0], rc.2.1) r' ∧ r = zadd rc.2.2.1 rc.2.2.2 r'
        | none => zcov M.2.2.2.2.2.2 pc = false ∧ r = rc
/-- what method mi does with the arguments as over the heap h, with calls at most d deep -/
def zX (T : zTb) : Nat → Nat → List Value → zH → zRs → Prop
  | 0, _, _, _, _ => False
  | d + 1, mi, as, h, r => ∃ M n, zTms T mi = some M ∧ zcat as ≤ M.2.2.2.1 ∧ zRun T (zX T d) M n (0, lv_args 0 as, [], h) r
end
section
/-! what the abstract run is worth over the machine: the words -/
/-- the world at a state: the cells of h at ad, all of them new since n0 -/
def zWd (D : va_G) (cl : List vw_C) (tys : List (ClassId × FieldType)) (sa : Nat → Nat) (n0 : Nat) (zst : State → Prop) (ad : List Nat) (h : zH) (U : State) : Prop :=
  ∃ ws, zRel sa tys ad h ws ∧ va_P D cl ws U.heap ∧ va_D (fun q : Nat => n0 ≤ q) ws ∧ va_K D cl tys U ∧ zst U ∧ n0 ≤ U.heap.size
def zExc (xn : Nat → String) (x b : Nat) (U : State) : Prop := ∃ cell : Cell, U.heap[b]? = some cell ∧ cell.vm.isStatics = false ∧ U.vm.findClass (xn x) = some cell.cls
def zOut (sa : Nat → Nat) (xn : Nat → String) (ad : List Nat) (o : zO) (oc : Outcome) (U : State) : Prop := match o with
  | .inl none => oc = .returned none
  | .inl (some v) => ∃ c, oc = .returned (some c) ∧ zV sa ad v c
  | .inr x => ∃ b, oc = .threw b ∧ zExc xn x b U
def zQ (D : va_G) (cl : List vw_C) (tys : List (ClassId × FieldType)) (sa : Nat → Nat) (xn : Nat → String) (n0 : Nat) (zst : State → Prop) (ad : List Nat) (o : zO) (h' : zH) : Array Value → State → Outcome → State → Prop := fun _ st oc t =>
  (∃ xs, zWd D cl tys sa n0 zst (ad ++ xs) h' t ∧ zOut sa xn (ad ++ xs) o oc t) ∧ st.heap.size ≤ t.heap.size ∧ ∀ q : Nat, q < n0 → t.heap[q]? = st.heap[q]?
def zPc (D : va_G) (cl : List vw_C) (tys : List (ClassId × FieldType)) (sa : Nat → Nat) (n0 : Nat) (zst : State → Prop) (ad : List Nat) (h : zH) (cas : List Value) : Array Value → State → Prop := fun a U => a = cas.toArray ∧ zWd D cl tys sa n0 zst ad h U
def zrm (d mc ms : Nat) : Room := { frames := d + 30, cells := mc, slots := ms, locals := d * 100 + 600 }
theorem zrm_l (d mc ms : Nat) : (zrm d mc ms).locals = d * 100 + 600 := rfl
theorem zrm_f (d mc ms : Nat) : (zrm d mc ms).frames = d + 30 := rfl
theorem zrm_lo {d mc ms maxL : Nat} {L : Nat} (h1 : maxL ≤ 60) (h2 : d * 100 + 700 ≤ L) : 16 + (maxL + 11) + (zrm d mc ms).locals ≤ L := by have := zrm_l d mc ms; omega
theorem zrm_fo {d mc ms L : Nat} (h2 : d + 31 ≤ L) : (zrm d mc ms).frames + 1 ≤ L := by have := zrm_f d mc ms; omega
theorem zrm_1 (d mc ms : Nat) : d + 31 ≤ (zrm (d + 1) mc ms).frames := by have := zrm_f (d + 1) mc ms; omega
theorem zrm_2 (d mc ms : Nat) : 20 ≤ (zrm (d + 1) mc ms).frames := by have := zrm_f (d + 1) mc ms; omega
theorem zrm_3 (d mc ms : Nat) : d * 100 + 700 ≤ (zrm (d + 1) mc ms).locals := by have := zrm_l (d + 1) mc ms; omega
theorem zrm_4 (d mc ms : Nat) : 400 ≤ (zrm (d + 1) mc ms).locals := by have := zrm_l (d + 1) mc ms; omega
/-- the contract that an abstract result is worth -/
def zCon (l : Launch) (T : zTb) (Ts : List Jvm.Cond) (zcw : zM → Jvm.Cond) (D : va_G) (tys : List (ClassId × FieldType)) (sa : Nat → Nat) (xn : Nat → String) (n0 : Nat) (zst : State → Prop) (d : Nat) (mi : Nat) (as : List Value) (h : zH) (r : zRs) : Prop :=
  ∀ M, zTms T mi = some M → ∀ (ad : List Nat) (cas : List Value), zF sa ad as cas →
    zMet l M.2.1 (zcw M :: Ts) (zrm d r.2.2.1 r.2.2.2) (zPc D (zTcl T) tys sa n0 zst ad h cas) (zQ D (zTcl T) tys sa xn n0 zst ad r.1 r.2.1) r.2.2.1 r.2.2.2 (fun q : Nat => n0 ≤ q)
/-- the method's code word -/
def zCw (zcw : zM → Jvm.Cond) (M : zM) : Prop := (zcw M = .code M.2.1 M.2.2.1 M.2.2.2.1 M.2.2.2.2.1 ∧ M.2.2.2.2.2.2 = []) ∨ ∃ hh, zcw M = .codeWith M.2.1 M.2.2.1 M.2.2.2.1 M.2.2.2.2.1 hh ∧ M.2.2.2.2.2.2 ≠ []
def zMsOK (T : zTb) (Ts : List Jvm.Cond) (zcw : zM → Jvm.Cond) : Prop := ∀ (mi : Nat) (M : zM), zTms T mi = some M → zTcn T M.1 = some M.2.1.cls ∧ plainName M.2.1.cls = true ∧ (M.2.1.cls ≠ "java/lang/invoke/MethodHandle" ∧ M.2.1.cls ≠ "java/lang/invoke/VarHandle") ∧
  zcw M ∈ Ts ∧ Jvm.Cond.initialized M.2.1.cls ∈ Ts ∧ M.2.2.2.1 ≤ 60 ∧ (M.2.2.2.2.2.1 = true → M.2.1.name = "<init>") ∧ zCw zcw M
def zMlOK (T : zTb) (Ts : List Jvm.Cond) : Prop := ∀ (k : Nat) (C : String) (ix mi kind n : Nat), zTcn T k = some C → zTml T k ix = some (mi, kind, n) →
  (kind = 3 → Jvm.Cond.methodLink C ix objectInit ∈ Ts ∧ Jvm.Cond.instanceMethod objectInit ∈ Ts ∧ Jvm.Cond.code objectInit ⟨#[0xb1]⟩ 1 none ∈ Ts) ∧
  (kind < 3 → ∃ M, zTms T mi = some M ∧ Jvm.Cond.methodLink C ix M.2.1 ∈ Ts ∧ (parseMethodDescriptor M.2.1.desc).map (fun d => d.parameters.length) = some n ∧ (kind = 0 → Jvm.Cond.static M.2.1 ∈ Ts) ∧
    (kind = 1 → (∀ q : vw_C, (zTcl T)[M.1]? = some q → q.1 = M.2.1.cls) ∧ Jvm.Cond.instanceMethod M.2.1 ∈ Ts ∧ Jvm.Cond.selects M.2.1.cls M.2.1 M.2.1 ∈ Ts) ∧ (kind = 2 → M.2.1.name = "<init>" ∧ Jvm.Cond.instanceMethod M.2.1 ∈ Ts ∧ M.2.2.2.2.1 = none ∧ M.2.2.2.2.2.2 = []))
def zKl (Ts : List Jvm.Cond) (own : String) (ix : Nat) (v : Value) : Prop := match v with
  | .int x => Jvm.Cond.constant own ix x ∈ Ts
  | .long x => Jvm.Cond.constantLong own ix x ∈ Ts
  | .double x => Jvm.Cond.constantDouble own ix x ∈ Ts
  | _ => False
/-- the tables are as the words (Ts; of nest mates' fields: Ns) say -/
def zTabs (T : zTb) (Ts Ns : List Jvm.Cond) (zcw : zM → Jvm.Cond) : Prop := zCls (zTcl T) (zTty T) Ts ∧ (∀ (k : Nat) (C : String), zTcn T k = some C → zFl (zTcl T) (Ts ++ Ns) C k (zTfl T k) ∧ zNl (zTcl T) Ts C (zTnl T k) ∧ ∀ ix v, zTkl T k ix = some v → zKl Ts C ix v) ∧
  (∀ t : ArrayType, t = .int ∨ t = .boolean ∨ t = .long ∨ t = .double → Jvm.Cond.arrayClass (newarray.typeOf t) ∈ Ts) ∧ zMsOK T Ts zcw ∧ zMlOK T Ts ∧ ∀ w ∈ Ts, goodWord w = true
/-- the classes of the objects that were there before -/
def zSkOK (T : zTb) (sa : Nat → Nat) (n0 : Nat) (zst : State → Prop) : Prop := ∀ (s : State), zst s → ∀ (k ci : Nat) (C : String), zTsk T k = some ci → zTcn T ci = some C → 0 < k ∧ ∃ cell : Cell, (sa k < n0 ∧ s.heap[sa k]? = some cell) ∧ cell.vm.isStatics = false ∧ s.vm.findClass C = some cell.cls
/-- what lies below n0 stays -/
def zStay (n0 : Nat) (zst : State → Prop) : Prop := ∀ s U : State, zst s → s.WarmedH U.vm → (∀ q : Nat, q < n0 → U.heap[q]? = s.heap[q]?) → zst U
section ZW
variable {D : va_G} {cl : List vw_C} {tys : List (ClassId × FieldType)} {sa : Nat → Nat} {xn : Nat → String} {n0 : Nat} {zst : State → Prop} {ad : List Nat} {h : zH}
theorem zargs_eq {n : Nat} {st as r : List Value} (h : zargs n st = some (as, r)) : st = as.reverse ++ r ∧ as.length = n := by
  unfold zargs at h
  split at h
  · next hn =>
    cases h
    refine ⟨by simp, by simp; omega⟩
  · cases h
theorem zF.rev {ad : List Nat} : ∀ {vs cs : List Value}, zF sa ad vs cs → zF sa ad vs.reverse cs.reverse := by
  intro vs
  induction vs with
  | nil => intro cs h; cases zF_n h; exact True.intro
  | cons v vs ih =>
    intro cs h
    obtain ⟨c, cr, rfl, h1, h2⟩ := zF_c h
    rw [List.reverse_cons, List.reverse_cons]
    exact (ih h2).app ⟨h1, True.intro⟩
theorem zF.split : ∀ {vs ws cs : List Value}, zF sa ad (vs ++ ws) cs → ∃ c1 c2, cs = c1 ++ c2 ∧ zF sa ad vs c1 ∧ zF sa ad ws c2 := by
  intro vs
  induction vs with
  | nil => intro ws cs h; exact ⟨[], cs, rfl, True.intro, h⟩
  | cons v vs ih =>
    intro ws cs h
    obtain ⟨c, cr, rfl, h1, h2⟩ := zF_c (show zF sa ad (v :: (vs ++ ws)) cs from h)
    obtain ⟨c1, c2, rfl, h3, h4⟩ := ih h2
    exact ⟨c :: c1, c2, rfl, ⟨h1, h3⟩, h4⟩
theorem zF.cat : ∀ {vs cs : List Value}, zF sa ad vs cs → (cs.map fun v => v.category).sum = zcat vs := by
  intro vs
  induction vs with
  | nil => intro cs h; cases zF_n h; rfl
  | cons v vs ih =>
    intro cs h
    obtain ⟨c, cr, rfl, h1, h2⟩ := zF_c h
    have e := ih h2
    unfold zcat at e ⊢
    simp only [List.map_cons, List.sum_cons, h1.cat, e]
theorem zsl_len (vs : List Value) : (lg_sl vs).length = zcat vs := by
  induction vs with
  | nil => rfl
  | cons v vs ih =>
    unfold zcat at ih ⊢
    have e : lg_sl (v :: vs) = (if v.category = 2 then [.val v, .second] else [.val v]) ++ lg_sl vs := rfl
    rw [e, List.length_append, ih, List.map_cons, List.sum_cons]
    rcases lv_cat v with q | q <;> simp [q]
theorem zlv_args {ad : List Nat} : ∀ (vs cs : List Value) (i : Nat), zF sa ad vs cs → zLR sa ad (lv_args i vs) (lv_args i cs) := by
  intro vs
  induction vs with
  | nil => intro cs i h; cases zF_n h; exact True.intro
  | cons v vs ih =>
    intro cs i h
    obtain ⟨c, cr, rfl, h1, h2⟩ := zF_c h
    have e := h1.cat
    refine ⟨rfl, h1, ?_⟩
    rw [e]
    exact ih _ _ h2
end ZW
end
section
/-! what the abstract run is worth over the machine -/
/-- what is left to others: instructions on objects that were there before -/
def zExtOK (l : Launch) (T : zTb) (Ts Ns : List Jvm.Cond) (sa : Nat → Nat) (n0 : Nat) (zst : State → Prop) : Prop :=
  ∀ {p : Program} {e : Env} {R : Room} {s : State} {m : MethodId} {sargs : Array Value} {below : List Frame} {meth : Method} {c : Code} {H : Heap} {locs : List Loc} {cells slots : Nat} {Q : State → Prop} {cc : ByteArray} {pc len k nL : Nat} {C : String} {ls : Array Slot} {ad : List Nat} {st cs st' : List Value} {i : Instr},
    p.tables.exec = Jvm.exec → c.code = cc → c.maxLocals = nL → ls.size = nL → zTcn T k = some C → s.vm.findClass C = some m.cls → (∀ w ∈ Ts ++ Ns, w.before sargs s = true) → zst s → n0 ≤ s.heap.size → va_S (fun q : Nat => n0 ≤ q) s.heap H locs → 20 ≤ R.frames → 400 ≤ R.locals → cells ≤ R.cells → slots ≤ R.slots →
    decode cc pc = .ok (i, len) → len = zlen i → zText T k i st = some st' → zF sa ad st cs →
    (∀ cs', zF sa ad st' cs' → W p l e R s m sargs below meth c H locs cells slots Q (F0 m (pc + len) ls cs')) → W p l e R s m sargs below meth c H locs cells slots Q (F0 m pc ls cs)
/-- a new exception -/
def zThrOK (l : Launch) (T : zTb) (Ts Ns : List Jvm.Cond) (xn : Nat → String) (n0 : Nat) (zst : State → Prop) : Prop :=
  ∀ {p : Program} {e : Env} {R : Room} {s : State} {m : MethodId} {sargs : Array Value} {below : List Frame} {meth : Method} {c : Code} {H : Heap} {locs : List Loc} {cells slots : Nat} {Q : State → Prop} {cc : ByteArray} {pc k nL xi : Nat} {C : String} {ls : Array Slot} {cs : List Value} {i : Instr},
    p.tables.exec = Jvm.exec → c.code = cc → c.maxLocals = nL → ls.size = nL → zTcn T k = some C → s.vm.findClass C = some m.cls → (∀ w ∈ Ts ++ Ns, w.before sargs s = true) → zst s → n0 ≤ s.heap.size → va_S (fun q : Nat => n0 ≤ q) s.heap H locs → 20 ≤ R.frames → 400 ≤ R.locals → cells + 1 ≤ R.cells → slots + 6 ≤ R.slots → (cs.map fun v => v.category).sum ≤ 16 →
    ∀ {hs : List (Nat × Nat × Nat × Nat)} {st : List Value}, decode cc pc = .ok (i, 3) → zth T k cc hs pc i st = some xi →
    (∀ (b : Nat) (H1 : Heap) (locs1 : List Loc), (∀ q : Nat, q < H.size → H1[q]? = H[q]?) → va_S (fun q : Nat => n0 ≤ q) s.heap H1 locs1 → (∀ t : State, t.heap = H1 → s.WarmedH t.vm → zExc xn xi b t) → zWT p l e R s m sargs below meth c H1 locs1 (cells + 1) (slots + 6) Q b (F0 m (pc + 7) ls cs)) →
    W p l e R s m sargs below meth c H locs cells slots Q (F0 m pc ls cs)
/-- a handler -/
def zHanOK (l : Launch) (T : zTb) (Ts Ns : List Jvm.Cond) (zcw : zM → Jvm.Cond) (xn : Nat → String) (zst : State → Prop) : Prop :=
  ∀ {p : Program} {e : Env} {R : Room} {s : State} {m : MethodId} {sargs : Array Value} {below : List Frame} {meth : Method} {c : Code} {H : Heap} {locs : List Loc} {cells slots : Nat} {Q : State → Prop} {M : zM} {mi pc x b : Nat} {ls : Array Slot} {rest : List Value},
    zTms T mi = some M → M.2.2.2.2.2.2 ≠ [] → (zcw M).before sargs s = true → s.methodNamed? M.2.1 = some m → s.vm.method? m = some meth → meth.code = some c → (∀ w ∈ Ts ++ Ns, w.before sargs s = true) → zst s → (∀ t : State, t.heap = H → s.WarmedH t.vm → zExc xn x b t) →
    (∀ hp, zhand M.2.2.2.2.2.2 pc x = some hp → W p l e R s m sargs below meth c H locs cells slots Q (F0 m hp ls [.ref b]) → zWT p l e R s m sargs below meth c H locs cells slots Q b (F0 m pc ls rest)) ∧
    (zcov M.2.2.2.2.2.2 pc = false → ∀ q ∈ c.exceptionTable.toList, covers q pc = false)
section ZS
variable {p : Program} {l : Launch} {e : Env} {R : Room} {s : State} {m : MethodId} {sargs : Array Value} {below : List Frame} {meth : Method} {c : Code}
variable {D : va_G} {tys : List (ClassId × FieldType)} {sa : Nat → Nat} {xn : Nat → String} {n0 : Nat} {zst : State → Prop} {T : zTb} {Ts Ns : List Jvm.Cond} {zcw : zM → Jvm.Cond} {M : zM} {C : String} {d mc ms mi0 : Nat} {CC : Nat → List Value → zH → zRs → Prop}
set_option maxHeartbeats 4000000 in
theorem zbody (hx : p.tables.exec = Jvm.exec) (hb : c.code = M.2.2.1) (hml : c.maxLocals = M.2.2.2.1) (hr : meth.sig.returnType = M.2.2.2.2.1) (hlocks : meth.locks = false) (hin : M.2.2.2.2.2.1 = true → meth.name = "<init>") (hC : zTcn T M.1 = some C) (hown : s.vm.findClass C = some m.cls)
    (hM0 : M.2.2.2.2.2.2 ≠ [] → zTms T mi0 = some M ∧ s.methodNamed? M.2.1 = some m ∧ (zcw M).before sargs s = true ∧ s.vm.method? m = some meth ∧ meth.code = some c) (hnh : M.2.2.2.2.2.2 = [] → ∀ q ∈ c.exceptionTable.toList, ∀ pc, covers q pc = false)
    (hT : zTabs T Ts Ns zcw) (hty : zTys tys) (hstay : zStay n0 zst) (hext : zExtOK l T Ts Ns sa n0 zst) (hthr : zThrOK l T Ts Ns xn n0 zst) (hhan : zHanOK l T Ts Ns zcw xn zst) (hsk : zSkOK T sa n0 zst)
    (hts : ∀ w ∈ Ts ++ Ns, w.before sargs s = true) (hz : zst s) (hn0 : n0 ≤ s.heap.size) (hK : va_K D (zTcl T) tys s) (hRf : d + 31 ≤ R.frames) (hRf2 : 20 ≤ R.frames) (hRl : d * 100 + 700 ≤ R.locals) (hRl2 : 400 ≤ R.locals) (hRc : mc ≤ R.cells) (hRs : ms ≤ R.slots)
    (hCC : ∀ mi as h r, CC mi as h r → zCon l T Ts zcw D tys sa xn n0 zst d mi as h r) (ad0 : List Nat) :
    ∀ (n : Nat) (g : zG) (r : zRs), zRun T CC M n g r → ∀ (locs : List Loc) (cells slots : Nat) (H : Heap) (x : List Nat) (ws : va_W) (k : zL) (ls : Array Slot) (cs : List Value), zRel sa tys (ad0 ++ x) g.2.2.2 ws → va_P D (zTcl T) ws H → va_D (fun q : Nat => n0 ≤ q) ws → va_S (fun q : Nat => n0 ≤ q) s.heap H locs →
      zLR sa (ad0 ++ x) g.2.1 k → lv_has ls M.2.2.2.1 k → zF sa (ad0 ++ x) g.2.2.1 cs → cells + r.2.2.1 = mc → slots + r.2.2.2 = ms →
      W p l e R s m sargs below meth c H locs cells slots (zMQ below (zQ D (zTcl T) tys sa xn n0 zst ad0 r.1 r.2.1) sargs s mc ms (fun q : Nat => n0 ≤ q)) (F0 m g.1 ls cs) := by
  obtain ⟨tCls, tK, tArr, tMs, tMl, tGood⟩ := hT
  obtain ⟨tFl, tNl, tKl⟩ := tK _ _ hC
  have htsT : ∀ w ∈ Ts, w.before sargs s = true := fun w hw => hts w (List.mem_append_left _ hw)
  have tClsA : zCls (zTcl T) (zTty T) (Ts ++ Ns) := fun ci q hq => ⟨fun w hw => List.mem_append_left _ ((tCls ci q hq).1 w hw), (tCls ci q hq).2⟩
  have hA : ∀ q : Nat, s.heap.size ≤ q → (fun q : Nat => n0 ≤ q) q := fun q h => Nat.le_trans hn0 h
  have hstat : ∀ {H : Heap} {locs : List Loc}, va_S (fun q : Nat => n0 ≤ q) s.heap H locs → ∀ q : Nat, q < n0 → H[q]? = s.heap[q]? := fun hS q hq => hS.2.1 q (Nat.lt_of_lt_of_le hq hn0) (Nat.not_le.mpr hq)
  have hws : ∀ {M' : zM}, zcw M' ∈ Ts → ∀ w ∈ zcw M' :: Ts, ∀ (a' : Array Value) (U : State), s.WarmedH U.vm → w.before a' U = true := by
    intro M' h1 w hw a' U hU
    have h2 : w ∈ Ts := by
      rcases List.mem_cons.mp hw with rfl | h
      · exact h1
      · exact h
    exact word_at hU (good_of_word (tGood w h2)) (htsT w h2)
  -- a world at an end
  have hend : ∀ {H : Heap} {locs : List Loc} {x : List Nat} {ws : va_W} {h : zH}, zRel sa tys (ad0 ++ x) h ws → va_P D (zTcl T) ws H → va_D (fun q : Nat => n0 ≤ q) ws → va_S (fun q : Nat => n0 ≤ q) s.heap H locs → ∀ t : State, t.heap = H → s.WarmedH t.vm → zWd D (zTcl T) tys sa n0 zst (ad0 ++ x) h t := by
    intro H locs x ws h h1 h2 h3 h4 t ht hW
    exact ⟨ws, h1, by rw [ht]; exact h2, h3, va_K.moved hW.alike hK, hstay s t hz hW (by rw [ht]; exact hstat h4), by rw [ht]; exact Nat.le_trans hn0 h4.1⟩
  have hfrm : ∀ {H : Heap} {locs : List Loc}, va_S (fun q : Nat => n0 ≤ q) s.heap H locs → ∀ t : State, t.heap = H → s.heap.size ≤ t.heap.size ∧ ∀ q : Nat, q < n0 → t.heap[q]? = s.heap[q]? := fun h4 t ht => ⟨by rw [ht]; exact h4.1, by rw [ht]; exact hstat h4⟩
  intro n
  induction n with
  | zero => intro g r hrun; exact absurd hrun (by simp [zRun])
  | succ n ih =>
    -- behind a call
    have haft : ∀ {H : Heap} {locs L : List Loc} {x xs : List Nat} {ws : va_W} {h h' : zH} {st t : State}, va_S (fun q : Nat => n0 ≤ q) s.heap H locs → st.heap = H → (st.heap.size ≤ t.heap.size ∧ ∀ q : Nat, q < n0 → t.heap[q]? = st.heap[q]?) → (∀ q ∈ L, n0 ≤ q.base) → va_S (fun q : Nat => n0 ≤ q) s.heap t.heap (locs ++ L) := by
      intro H locs L x xs ws h h' st t h1 h2 h3 h4
      subst h2
      refine ⟨Nat.le_trans h1.1 h3.1, fun q hq hA => ?_, fun q hq => ?_⟩
      · rw [h3.2 q (Nat.lt_of_not_le hA)]; exact h1.2.1 q hq hA
      · rcases List.mem_append.mp hq with z | z
        · exact h1.2.2 q z
        · exact h4 q z
    have hret : ∀ {a : Array Value} {r : zRs} {rc : zRs} {pc : Nat} {l' : zL} {rest : List Value} {locs : List Loc} {cells slots : Nat} {H : Heap} {x : List Nat} {k : zL} {ls : Array Slot} {cr : List Value}, va_S (fun q : Nat => n0 ≤ q) s.heap H locs → zLR sa (ad0 ++ x) l' k → lv_has ls M.2.2.2.1 k → zF sa (ad0 ++ x) rest cr → cells + r.2.2.1 = mc → slots + r.2.2.2 = ms →
        (match rc.1 with
          | .inl v => ∃ r', zRun T CC M n (pc + 3, l', v.toList ++ rest, rc.2.1) r' ∧ r = zadd rc.2.2.1 rc.2.2.2 r'
          | .inr x => match zhand M.2.2.2.2.2.2 pc x with
            | some hp => ∃ r', zRun T CC M n (hp, l', [.retAddr 0], rc.2.1) r' ∧ r = zadd rc.2.2.1 rc.2.2.2 r'
            | none => zcov M.2.2.2.2.2.2 pc = false ∧ r = rc) →
        (∀ (v : Option Value) (st t : State) (L : List Loc), st.heap = H → s.WarmedH st.vm → st.WarmedH t.vm → zQ D (zTcl T) tys sa xn n0 zst (ad0 ++ x) rc.1 rc.2.1 a st (.returned v) t → (∀ q ∈ L, n0 ≤ q.base) → W p l e R s m sargs below meth c t.heap (locs ++ L) (cells + rc.2.2.1) (slots + rc.2.2.2) (zMQ below (zQ D (zTcl T) tys sa xn n0 zst ad0 r.1 r.2.1) sargs s mc ms (fun q : Nat => n0 ≤ q)) (F0 m (pc + 3) ls (v.toList ++ cr))) ∧
        (∀ (b : Nat) (st t : State) (L : List Loc), st.heap = H → s.WarmedH st.vm → st.WarmedH t.vm → zQ D (zTcl T) tys sa xn n0 zst (ad0 ++ x) rc.1 rc.2.1 a st (.threw b) t → (∀ q ∈ L, n0 ≤ q.base) → zWT p l e R s m sargs below meth c t.heap (locs ++ L) (cells + rc.2.2.1) (slots + rc.2.2.2) (zMQ below (zQ D (zTcl T) tys sa xn n0 zst ad0 r.1 r.2.1) sargs s mc ms (fun q : Nat => n0 ≤ q)) b (F0 m pc ls cr)) := by
      intro a r rc pc l' rest locs cells slots H x k ls cr hS hL hl hF hmc hms hrun
      obtain ⟨ro, rh, rcc, rss⟩ := rc
      constructor
      · intro v st t L e1 hW1 hW2 hq hLq
        obtain ⟨⟨xs, ⟨ws', b1, b2, b3, b4, b5, b6⟩, hout⟩, hsz⟩ := hq
        have hS' := haft (L := L) (x := x) (xs := xs) (ws := ws') (h := rh) (h' := rh) hS e1 hsz hLq
        cases ro with
        | inr y => obtain ⟨b, hb1, -⟩ := hout; cases hb1
        | inl ov =>
          obtain ⟨r', h1, rfl⟩ := hrun
          have hv : zF sa (ad0 ++ (x ++ xs)) (ov.toList ++ rest) (v.toList ++ cr) := by
            rw [← List.append_assoc]
            cases ov with
            | none => cases hout; exact hF.mono xs
            | some w =>
              obtain ⟨cw, hcw1, hcw2⟩ := hout
              cases hcw1
              exact ⟨hcw2, hF.mono xs⟩
          exact ih _ _ h1 (locs ++ L) (cells + rcc) (slots + rss) t.heap (x ++ xs) ws' k ls _ (by rw [← List.append_assoc]; exact b1) b2 b3 hS' (by rw [← List.append_assoc]; exact hL.mono xs) hl hv (by simp only [zadd] at hmc; show cells + rcc + _ = mc; omega) (by simp only [zadd] at hms; show slots + rss + _ = ms; omega)
      · intro b st t L e1 hW1 hW2 hq hLq
        obtain ⟨⟨xs, ⟨ws', b1, b2, b3, b4, b5, b6⟩, hout⟩, hsz⟩ := hq
        have hS' := haft (L := L) (x := x) (xs := xs) (ws := ws') (h := rh) (h' := rh) hS e1 hsz hLq
        have hWt : s.WarmedH t.vm := State.WarmedH.trans hW1 hW2
        cases ro with
        | inl ov =>
          cases ov with
          | none => cases hout
          | some w => obtain ⟨cw, hcw1, -⟩ := hout; cases hcw1
        | inr y =>
          obtain ⟨b', hb1, hexc⟩ := hout
          cases hb1
          have hexc' : ∀ t' : State, t'.heap = t.heap → s.WarmedH t'.vm → zExc xn y b t' := by
            intro t' ht' hW'
            obtain ⟨cell, g1, g2, g3⟩ := hexc
            refine ⟨cell, by rw [ht']; exact g1, g2, ?_⟩
            rw [hW'.alike.findClass, ← hWt.alike.findClass]
            exact g3
          by_cases hhs : M.2.2.2.2.2.2 = []
          · dsimp only at hrun
            have hz0 : zhand M.2.2.2.2.2.2 pc y = none := by rw [hhs]; rfl
            rw [hz0] at hrun
            obtain ⟨-, rfl⟩ := hrun
            have h1c : cells + rcc = mc := hmc
            have h1s : slots + rss = ms := hms
            subst h1c
            subst h1s
            refine zWT.out rfl rfl rfl (fun q hq => hnh hhs q hq _) hlocks (fun t' ht hW => ?_) hS'.2.2
            refine ⟨⟨x ++ xs, ?_, b, rfl, hexc' t' ht hW⟩, hfrm hS' t' ht⟩
            exact hend (by rw [← List.append_assoc]; exact b1) b2 b3 hS' t' ht hW
          · have hh := fun {Q : State → Prop} => hhan (p := p) (e := e) (R := R) (below := below) (meth := meth) (c := c) (H := t.heap) (locs := locs ++ L) (cells := cells + rcc) (slots := slots + rss) (Q := Q) (pc := pc) (x := y) (b := b) (ls := ls) (rest := cr) (hM0 hhs).1 hhs (hM0 hhs).2.2.1 (hM0 hhs).2.1 (hM0 hhs).2.2.2.1 (hM0 hhs).2.2.2.2 hts hz hexc'
            dsimp only at hrun
            cases hz0 : zhand M.2.2.2.2.2.2 pc y with
            | none =>
              rw [hz0] at hrun
              obtain ⟨hcov, rfl⟩ := hrun
              have h1c : cells + rcc = mc := hmc
              have h1s : slots + rss = ms := hms
              subst h1c
              subst h1s
              refine zWT.out rfl rfl rfl ((hh (Q := fun _ => True)).2 hcov) hlocks (fun t' ht hW => ?_) hS'.2.2
              refine ⟨⟨x ++ xs, ?_, b, rfl, hexc' t' ht hW⟩, hfrm hS' t' ht⟩
              exact hend (by rw [← List.append_assoc]; exact b1) b2 b3 hS' t' ht hW
            | some hp =>
              rw [hz0] at hrun
              obtain ⟨r', h1, rfl⟩ := hrun
              refine hh.1 hp hz0 ?_
              exact ih _ _ h1 (locs ++ L) (cells + rcc) (slots + rss) t.heap (x ++ xs) ws' k ls _ (by rw [← List.append_assoc]; exact b1) b2 b3 hS' (by rw [← List.append_assoc]; exact hL.mono xs) hl ⟨⟨b, rfl, fun h => absurd h (Nat.lt_irrefl 0)⟩, True.intro⟩ (by simp only [zadd] at hmc; show cells + rcc + _ = mc; omega) (by simp only [zadd] at hms; show slots + rss + _ = ms; omega)
    intro g r hrun locs cells slots H x ws k ls cs hrel hP hD hS hL hl hF hmc hms
    rw [zRun] at hrun
    cases hstp : zstep T M g with
    | none => rw [hstp] at hrun; exact hrun.elim
    | some stp =>
      rw [hstp] at hrun
      unfold zstep at hstp
      split at hstp
      · cases hstp
      · next i len hd =>
        split at hstp
        · next pc' st' hbr =>
          cases hstp
          obtain ⟨r', h1, rfl⟩ := hrun
          exact zbr_ok hx hb hd hF hbr (fun cs' hF' => ih _ _ h1 locs cells slots H x ws k ls cs' hrel hP hD hS hL hl hF' (by simpa [zadd] using hmc) (by simpa [zadd] using hms))
        · split at hstp
          · next hlen =>
            split at hstp
            · next l' st' hp =>
              cases hstp
              obtain ⟨r', h1, rfl⟩ := hrun
              exact zpure_ok hx hb hd hlen hL hl hF hp (fun ls' k' cs' hL' hl' hF' => ih _ _ h1 locs cells slots H x ws k' ls' cs' hrel hP hD hS hL' hl' hF' (by simpa [zadd] using hmc) (by simpa [zadd] using hms))
            · split at hstp
              · next st' hp =>
                cases hstp
                obtain ⟨r', h1, rfl⟩ := hrun
                have kk : ∀ cs', zF sa (ad0 ++ x) st' cs' → W p l e R s m sargs below meth c H locs cells slots (zMQ below (zQ D (zTcl T) tys sa xn n0 zst ad0 (zadd 0 0 r').1 (zadd 0 0 r').2.1) sargs s mc ms (fun q : Nat => n0 ≤ q)) (F0 m (g.1 + len) ls cs') :=
                  fun cs' hF' => ih _ _ h1 locs cells slots H x ws k ls cs' hrel hP hD hS hL hl hF' (by simpa [zadd] using hmc) (by simpa [zadd] using hms)
                unfold zmem at hp
                split at hp
                · cases hlen; exact zgetf_ok hx hb hts hown hK tClsA tFl hd hrel hP hF hp kk
                · cases hlen; exact zaldI_ok hx hb hty hK hd hrel hP hF hp kk
                · cases hlen; exact zaldZ_ok hx hb hty hK hd hrel hP hF hp kk
                · cases hlen; exact zaldL_ok hx hb hty hK hd hrel hP hF hp kk
                · cases hlen; exact zaldD_ok hx hb hty hK hd hrel hP hF hp kk
                · cases hlen; exact zalen_ok hx hb hK hd hrel hP hF hp kk
                · cases hlen
                  unfold zkI at hp
                  split at hp
                  · next y hv => cases hp; exact lv_ldc hx hb hown (htsT _ (tKl _ _ hv)) hd (kk _ ⟨rfl, hF⟩)
                  · cases hp
                · cases hlen
                  unfold zkI at hp
                  split at hp
                  · next y hv => cases hp; exact lv_ldcw hx hb hown (htsT _ (tKl _ _ hv)) hd (kk _ ⟨rfl, hF⟩)
                  · cases hp
                · cases hlen
                  unfold zkL at hp
                  split at hp
                  · next y hv => cases hp; exact lv_ldc2 hx hb hown (htsT _ (tKl _ _ hv)) hd (kk _ ⟨rfl, hF⟩)
                  · next y hv => cases hp; exact lv_ldc2d hx hb hown (htsT _ (tKl _ _ hv)) hd (kk _ ⟨rfl, hF⟩)
                  · cases hp
                · cases hp
              · split at hstp
                · next h' st' hp =>
                  cases hstp
                  obtain ⟨r', h1, rfl⟩ := hrun
                  have kk : ∀ (ws' : va_W) (H1 : Heap) (locs1 : List Loc) (cs' : List Value), zRel sa tys (ad0 ++ x) h' ws' → va_P D (zTcl T) ws' H1 → va_D (fun q : Nat => n0 ≤ q) ws' → va_S (fun q : Nat => n0 ≤ q) s.heap H1 locs1 → zF sa (ad0 ++ x) st' cs' → W p l e R s m sargs below meth c H1 locs1 cells slots (zMQ below (zQ D (zTcl T) tys sa xn n0 zst ad0 (zadd 0 0 r').1 (zadd 0 0 r').2.1) sargs s mc ms (fun q : Nat => n0 ≤ q)) (F0 m (g.1 + len) ls cs') :=
                    fun ws' H1 locs1 cs' a1 a2 a3 a4 hF' => ih _ _ h1 locs1 cells slots H1 x ws' k ls cs' a1 a2 a3 a4 hL hl hF' (by simpa [zadd] using hmc) (by simpa [zadd] using hms)
                  unfold zwr at hp
                  split at hp
                  · cases hlen; exact zputf_ok hx hb hts hown hK tClsA tFl hin hd hrel hP hD hS hF hp kk
                  · cases hlen; exact zastI_ok hx hb hty hK hd hrel hP hD hS hF hp kk
                  · cases hlen; exact zastZ_ok hx hb hty hK hd hrel hP hD hS hF hp kk
                  · cases hlen; exact zastL_ok hx hb hty hK hd hrel hP hD hS hF hp kk
                  · cases hlen; exact zastD_ok hx hb hty hK hd hrel hP hD hS hF hp kk
                  · cases hp
                · split at hstp
                  · next xi hp =>
                    cases hstp
                    cases hrun
                    have hi : zlen i = 3 ∧ M.2.2.2.2.2.2 = [] ∧ zcat g.2.2.1 ≤ 16 := by
                      unfold zth at hp
                      split at hp
                      · split at hp
                        · split at hp
                          · split at hp
                            · next hq => exact ⟨rfl, List.isEmpty_iff.mp hq.2.1, hq.2.2⟩
                            · cases hp
                          · cases hp
                        · cases hp
                      · cases hp
                    have h1c : cells + 1 = mc := hmc
                    have h1s : slots + 6 = ms := hms
                    subst h1c
                    subst h1s
                    refine hthr hx hb hml hl.1 hC hown hts hz hn0 hS hRf2 hRl2 hRc hRs (by rw [hF.cat]; exact hi.2.2) (by rw [hd, hlen, hi.1]) hp (fun b H1 locs1 a1 a2 a3 => ?_)
                    refine zWT.out rfl rfl rfl (fun q hq => hnh hi.2.1 q hq _) hlocks (fun t ht hW => ?_) a2.2.2
                    exact ⟨⟨x, hend hrel (fun k q hk => (hP k q hk).kept (a1 q.1 (hP k q hk).lt)) hD a2 t ht hW, b, rfl, a3 t ht hW⟩, hfrm a2 t ht⟩
                  · split at hstp
                    · next h' st' dn hp =>
                      cases hstp
                      obtain ⟨r', h1, rfl⟩ := hrun
                      have kk : ∀ (y : List Nat) (ws' : va_W) (H1 : Heap) (cs' : List Value), zRel sa tys (ad0 ++ x ++ y) h' ws' → va_P D (zTcl T) ws' H1 → va_D (fun q : Nat => n0 ≤ q) ws' → va_S (fun q : Nat => n0 ≤ q) s.heap H1 locs → zF sa (ad0 ++ x ++ y) st' cs' → W p l e R s m sargs below meth c H1 locs (cells + 1) (slots + dn) (zMQ below (zQ D (zTcl T) tys sa xn n0 zst ad0 (zadd 1 dn r').1 (zadd 1 dn r').2.1) sargs s mc ms (fun q : Nat => n0 ≤ q)) (F0 m (g.1 + len) ls cs') :=
                        fun y ws' H1 cs' a1 a2 a3 a4 hF' => ih _ _ h1 locs (cells + 1) (slots + dn) H1 (x ++ y) ws' k ls cs' (by rw [← List.append_assoc]; exact a1) a2 a3 a4 (by rw [← List.append_assoc]; exact hL.mono y) hl (by rw [← List.append_assoc]; exact hF') (by simp only [zadd] at hmc; omega) (by simp only [zadd] at hms; omega)
                      have hc1 : cells + 1 ≤ R.cells := by simp only [zadd] at hmc; omega
                      have hc2 : slots + dn ≤ R.slots := by simp only [zadd] at hms; omega
                      unfold znw at hp
                      split at hp
                      · cases hlen; exact znew_ok hx hb htsT hown hK tCls tNl hA hd hrel hP hD hS hF hp hc1 hc2 kk
                      · next t =>
                        cases hlen
                        refine znewa_ok hx hb hty hK hA (htsT _ (tArr _ ?_)) hd hrel hP hD hS hF hp hc1 hc2 kk
                        unfold znewa at hp
                        split at hp
                        · split at hp
                          · cases hp
                          · split at hp
                            · exact Or.inl rfl
                            · exact Or.inr (Or.inl rfl)
                            · exact Or.inr (Or.inr (Or.inl rfl))
                            · exact Or.inr (Or.inr (Or.inr rfl))
                            · cases hp
                        · cases hp
                      · cases hp
                    · split at hstp
                      · next st' hp =>
                        cases hstp
                        obtain ⟨r', h1, rfl⟩ := hrun
                        unfold zoi at hp
                        split at hp
                        · split at hp
                          · next ix _ mi n hml3 =>
                            obtain ⟨w1, w2, w3⟩ := (tMl _ _ _ _ _ _ hC hml3).1 rfl
                            split at hp
                            · next b0 r0 hst0 =>
                              split at hp
                              · next hq =>
                                cases hp
                                cases hlen
                                rw [hst0] at hF
                                obtain ⟨cb, cr, rfl, hvb, hF1⟩ := zF_c hF
                                obtain ⟨b, hb1, rfl⟩ := hvb
                                refine W.objInit hx hb hown (htsT _ w1) (htsT _ w2) (htsT _ w3) (g := F0 m g.1 ls (.ref b :: cr)) rfl (by rw [hml]; exact hl.1) rfl hd (by omega) (by have := hF1.cat; show 2 * 0 + _ + 12 ≤ R.locals; omega) ?_
                                exact ih _ _ h1 locs cells slots H x ws k ls cr hrel hP hD hS hL hl hF1 (by simpa [zadd] using hmc) (by simpa [zadd] using hms)
                              · cases hp
                            · cases hp
                          · cases hp
                        · cases hp
                      · split at hstp
                        · next mi as rr hp =>
                          cases hstp
                          obtain ⟨rc, hcc, hm⟩ := hrun
                          have hle : rc.2.2.1 ≤ r.2.2.1 ∧ rc.2.2.2 ≤ r.2.2.2 := by
                            obtain ⟨ro, rh, rcc, rss⟩ := rc
                            cases ro with
                            | inl v => obtain ⟨r', -, rfl⟩ := hm; exact ⟨Nat.le_add_right _ _, Nat.le_add_right _ _⟩
                            | inr y =>
                              dsimp only at hm
                              cases hz0 : zhand M.2.2.2.2.2.2 g.1 y with
                              | none => rw [hz0] at hm; obtain ⟨-, rfl⟩ := hm; exact ⟨Nat.le_refl _, Nat.le_refl _⟩
                              | some hp2 => rw [hz0] at hm; obtain ⟨r', -, rfl⟩ := hm; exact ⟨Nat.le_add_right _ _, Nat.le_add_right _ _⟩
                          have hcR : cells + rc.2.2.1 ≤ R.cells := by omega
                          have hsR : slots + rc.2.2.2 ≤ R.slots := by omega
                          unfold zcl at hp
                          split at hp
                          · split at hp
                            · next mi0 n0' hml0 =>
                              split at hp
                              · next as0 r0 hza =>
                                split at hp
                                · next hq =>
                                  cases hp
                                  cases hlen
                                  obtain ⟨M', hM', w1, w2, w3, -, -⟩ := (tMl _ _ _ _ _ _ hC hml0).2 (by decide)
                                  obtain ⟨hC', hplain, hMH, hcwT, hiniT, hmaxL, hinit', hcw'⟩ := tMs _ _ hM'
                                  have hcode' : zCode M'.2.1 M'.2.2.2.1 s sargs := by
                                    rcases hcw' with ⟨q, -⟩ | ⟨hh, q, -⟩
                                    · exact ⟨_, _, Or.inl (q ▸ htsT _ hcwT)⟩
                                    · exact ⟨_, _, Or.inr ⟨hh, q ▸ htsT _ hcwT⟩⟩
                                  obtain ⟨he1, he2⟩ := zargs_eq hza
                                  rw [he1] at hF
                                  obtain ⟨c1, cr, rfl, hF1, hF2⟩ := zF.split hF
                                  obtain ⟨cas, rfl⟩ : ∃ cas, c1 = cas.reverse := ⟨c1.reverse, by simp⟩
                                  have hFas := hF1.rev
                                  rw [List.reverse_reverse, List.reverse_reverse] at hFas
                                  have hb2 := hret (a := cas.toArray) (ls := ls) hS hL hl hF2 hmc hms hm
                                  exact zcallS hx hb hown (hCC _ _ _ _ hcc M' hM' (ad0 ++ x) cas hFas) (Or.inl (htsT _ w1)) (htsT _ (w3 rfl)) hMH hml hl.1 hd (by rw [w2, hFas.len, he2]) (by rw [hF2.cat]; exact hq) hcode' (hws hcwT) (htsT _ hiniT) (zrm_fo hRf) (zrm_lo hmaxL hRl) rfl rfl hcR hsR (fun U hU hW => ⟨rfl, hend hrel hP hD hS U hU hW⟩) hb2.1 hb2.2
                                · cases hp
                              · cases hp
                            · cases hp
                          · split at hp
                            · next mi0 n0' hml0 =>
                              split at hp
                              · next as0 b0 r0 M0 hza hM0' =>
                                split at hp
                                · next ci fs hcell =>
                                  split at hp
                                  · next hq =>
                                    cases hp
                                    cases hlen
                                    obtain ⟨hq1, hq2⟩ := hq
                                    obtain ⟨M', hM', w1, w2, -, w4, -⟩ := (tMl _ _ _ _ _ _ hC hml0).2 (by decide)
                                    cases hM0'.symm.trans hM'
                                    obtain ⟨hC', hplain, hMH, hcwT, hiniT, hmaxL, hinit', hcw'⟩ := tMs _ _ hM0'
                                    have hcode' : zCode M0.2.1 M0.2.2.2.1 s sargs := by
                                      rcases hcw' with ⟨q, -⟩ | ⟨hh, q, -⟩
                                      · exact ⟨_, _, Or.inl (q ▸ htsT _ hcwT)⟩
                                      · exact ⟨_, _, Or.inr ⟨hh, q ▸ htsT _ hcwT⟩⟩
                                    obtain ⟨he1, he2⟩ := zargs_eq hza
                                    rw [he1] at hF
                                    obtain ⟨c1, cr0, rfl, hF1, hF2⟩ := zF.split hF
                                    obtain ⟨cb, cr, rfl, hvb, hF3⟩ := zF_c hF2
                                    obtain ⟨cas, rfl⟩ : ∃ cas, c1 = cas.reverse := ⟨c1.reverse, by simp⟩
                                    have hFas := hF1.rev
                                    rw [List.reverse_reverse, List.reverse_reverse] at hFas
                                    obtain ⟨a0, ee, ha0, hw0, hc0⟩ := hrel.2.2 _ _ hcell
                                    obtain ⟨bb, hbb, rfl⟩ := id hvb
                                    cases ha0.symm.trans hbb
                                    cases ee with
                                    | inl y => exact absurd hc0 (by simp [zC])
                                    | inr y =>
                                      obtain ⟨yi, ys⟩ := y
                                      cases (show yi = ci from hc0.1)
                                      subst hq1
                                      obtain ⟨qv, hqv1, -⟩ := hP _ _ hw0
                                      have hqv2 := (w4 rfl).1 qv hqv1
                                      obtain ⟨cellB, hcB, hoB, hclB⟩ := va_recv hK hP hqv1 hw0
                                      have hb2 := hret (a := (Value.ref a0 :: cas).toArray) (ls := ls) hS hL hl hF3 hmc hms hm
                                      exact zcallV hx hb hown (hCC _ _ _ _ hcc M0 hM0' (ad0 ++ x) (.ref a0 :: cas) ⟨hvb, hFas⟩) (Or.inl (htsT _ w1)) (htsT _ (w4 rfl).2.1) (htsT _ (w4 rfl).2.2) hMH hcB hoB (by rw [← hqv2]; exact hclB) hml hl.1 hd (by rw [w2, hFas.len, he2]) (by rw [hF3.cat]; exact hq2) hcode' (hws hcwT) (htsT _ hiniT) (zrm_fo hRf) (zrm_lo hmaxL hRl) rfl rfl hcR hsR (fun U hU hW => ⟨rfl, hend hrel hP hD hS U hU hW⟩) hb2.1 hb2.2
                                  · cases hp
                                · cases hp
                              · next as0 b0 r0 M0 hza hM0' =>
                                split at hp
                                · next ci hskc =>
                                  split at hp
                                  · next hq =>
                                    cases hp
                                    cases hlen
                                    obtain ⟨hq1, hq2⟩ := hq
                                    obtain ⟨M', hM', w1, w2, -, w4, -⟩ := (tMl _ _ _ _ _ _ hC hml0).2 (by decide)
                                    cases hM0'.symm.trans hM'
                                    obtain ⟨hC', hplain, hMH, hcwT, hiniT, hmaxL, hinit', hcw'⟩ := tMs _ _ hM0'
                                    have hcode' : zCode M0.2.1 M0.2.2.2.1 s sargs := by
                                      rcases hcw' with ⟨q, -⟩ | ⟨hh, q, -⟩
                                      · exact ⟨_, _, Or.inl (q ▸ htsT _ hcwT)⟩
                                      · exact ⟨_, _, Or.inr ⟨hh, q ▸ htsT _ hcwT⟩⟩
                                    obtain ⟨he1, he2⟩ := zargs_eq hza
                                    rw [he1] at hF
                                    obtain ⟨c1, cr0, rfl, hF1, hF2⟩ := zF.split hF
                                    obtain ⟨cb, cr, rfl, hvb, hF3⟩ := zF_c hF2
                                    obtain ⟨cas, rfl⟩ : ∃ cas, c1 = cas.reverse := ⟨c1.reverse, by simp⟩
                                    have hFas := hF1.rev
                                    rw [List.reverse_reverse, List.reverse_reverse] at hFas
                                    subst hq1
                                    obtain ⟨hkpos, cellB, hcB, hoB, hclB⟩ := hsk s hz b0 M0.1 _ hskc hC'
                                    obtain ⟨bb, rfl, hbb⟩ := id hvb
                                    have hbb := hbb hkpos
                                    subst hbb
                                    have hlow := hstat hS (sa b0)
                                    have hcB' : H[sa b0]? = some cellB := by rw [hlow hcB.1]; exact hcB.2
                                    have hb2 := hret (a := (Value.ref (sa b0) :: cas).toArray) (ls := ls) hS hL hl hF3 hmc hms hm
                                    exact zcallV hx hb hown (hCC _ _ _ _ hcc M0 hM0' (ad0 ++ x) (.ref (sa b0) :: cas) ⟨hvb, hFas⟩) (Or.inl (htsT _ w1)) (htsT _ (w4 rfl).2.1) (htsT _ (w4 rfl).2.2) hMH hcB' hoB hclB hml hl.1 hd (by rw [w2, hFas.len, he2]) (by rw [hF3.cat]; exact hq2) hcode' (hws hcwT) (htsT _ hiniT) (zrm_fo hRf) (zrm_lo hmaxL hRl) rfl rfl hcR hsR (fun U hU hW => ⟨rfl, hend hrel hP hD hS U hU hW⟩) hb2.1 hb2.2
                                  · cases hp
                                · cases hp
                              · cases hp
                            · cases hp
                          · split at hp
                            · next mi0 n0' hml0 =>
                              split at hp
                              · next as0 b0 r0 hza =>
                                split at hp
                                · next hq =>
                                  cases hp
                                  cases hlen
                                  obtain ⟨M', hM', w1, w2, -, -, w5⟩ := (tMl _ _ _ _ _ _ hC hml0).2 (by decide)
                                  obtain ⟨hC', hplain, hMH, hcwT, hiniT, hmaxL, hinit', hcw'⟩ := tMs _ _ hM'
                                  have hcode' : zCode M'.2.1 M'.2.2.2.1 s sargs := by
                                    rcases hcw' with ⟨q, -⟩ | ⟨hh, q, -⟩
                                    · exact ⟨_, _, Or.inl (q ▸ htsT _ hcwT)⟩
                                    · exact ⟨_, _, Or.inr ⟨hh, q ▸ htsT _ hcwT⟩⟩
                                  obtain ⟨he1, he2⟩ := zargs_eq hza
                                  obtain ⟨v1, v2, v3, v4⟩ := w5 rfl
                                  have hcode2 : (Jvm.Cond.code M'.2.1 M'.2.2.1 M'.2.2.2.1 none).before sargs s = true := by
                                    rcases hcw' with ⟨q, -⟩ | ⟨hh, q, q2⟩
                                    · rw [v3] at q; exact q ▸ htsT _ hcwT
                                    · exact absurd v4 q2
                                  rw [he1] at hF
                                  obtain ⟨c1, cr0, rfl, hF1, hF2⟩ := zF.split hF
                                  obtain ⟨cb, cr, rfl, hvb, hF3⟩ := zF_c hF2
                                  obtain ⟨cas, rfl⟩ : ∃ cas, c1 = cas.reverse := ⟨c1.reverse, by simp⟩
                                  have hFas := hF1.rev
                                  rw [List.reverse_reverse, List.reverse_reverse] at hFas
                                  obtain ⟨bb, hbb, rfl⟩ := id hvb
                                  have hb2 := hret (a := (Value.ref bb :: cas).toArray) (ls := ls) hS hL hl hF3 hmc hms hm
                                  exact zcallI hx hb hown (hCC _ _ _ _ hcc M' hM' (ad0 ++ x) (.ref bb :: cas) ⟨hvb, hFas⟩) (Or.inl (htsT _ w1)) v1 (htsT _ v2) hMH hml hl.1 hd (by rw [w2, hFas.len, he2]) (by rw [hF3.cat]; exact hq) hcode2 (hws hcwT) (htsT _ hiniT) (zrm_fo hRf) (zrm_lo hmaxL hRl) rfl rfl hcR hsR (fun U hU hW => ⟨rfl, hend hrel hP hD hS U hU hW⟩) hb2.1 hb2.2
                                · cases hp
                              · cases hp
                            · cases hp
                          · cases hp
                        · split at hstp
                          · next v hp =>
                            cases hstp
                            cases hrun
                            have h1c : cells = mc := hmc
                            have h1s : slots = ms := hms
                            subst h1c
                            subst h1s
                            unfold zrt at hp
                            split at hp
                            · split at hp
                              · next y q1 q2 =>
                                cases hp
                                cases hlen
                                rw [q2] at hF
                                obtain ⟨c0, rfl, hF0⟩ := zF_i hF
                                cases zF_n hF0
                                exact W.mono (fun t ht => zMQ.of ht) (W.iret hx hb (hr.trans q1) (fun t ht hW => ⟨⟨x, hend hrel hP hD hS t ht hW, _, rfl, rfl⟩, hfrm hS t ht⟩) hS.2.2 hd hlocks)
                              · next y q1 q2 =>
                                split at hp
                                · next hy =>
                                  cases hp
                                  cases hlen
                                  rw [q2] at hF
                                  obtain ⟨c0, rfl, hF0⟩ := zF_i hF
                                  cases zF_n hF0
                                  exact W.mono (fun t ht => zMQ.of ht) (W.zret hx hb (hr.trans q1) (by rcases hy with rfl | rfl <;> decide) (fun t ht hW => ⟨⟨x, hend hrel hP hD hS t ht hW, _, rfl, rfl⟩, hfrm hS t ht⟩) hS.2.2 hd hlocks)
                                · cases hp
                              · next y q1 q2 =>
                                split at hp
                                · next hy =>
                                  cases hp
                                  cases hlen
                                  rw [q2] at hF
                                  obtain ⟨c0, rfl, hF0⟩ := zF_i hF
                                  cases zF_n hF0
                                  exact W.mono (fun t ht => zMQ.of ht) (W.zret hx hb (hr.trans q1) hy (fun t ht hW => ⟨⟨x, hend hrel hP hD hS t ht hW, _, rfl, rfl⟩, hfrm hS t ht⟩) hS.2.2 hd hlocks)
                                · cases hp
                              · next y q1 q2 =>
                                split at hp
                                · next hy =>
                                  cases hp
                                  cases hlen
                                  rw [q2] at hF
                                  obtain ⟨c0, rfl, hF0⟩ := zF_i hF
                                  cases zF_n hF0
                                  exact W.mono (fun t ht => zMQ.of ht) (W.zret hx hb (hr.trans q1) hy (fun t ht hW => ⟨⟨x, hend hrel hP hD hS t ht hW, _, rfl, rfl⟩, hfrm hS t ht⟩) hS.2.2 hd hlocks)
                                · cases hp
                              · cases hp
                            · split at hp
                              · next y q1 q2 =>
                                cases hp
                                cases hlen
                                rw [q2] at hF
                                obtain ⟨c0, rfl, hF0⟩ := zF_l hF
                                cases zF_n hF0
                                exact W.mono (fun t ht => zMQ.of ht) (W.lret hx hb (hr.trans q1) (fun t ht hW => ⟨⟨x, hend hrel hP hD hS t ht hW, _, rfl, rfl⟩, hfrm hS t ht⟩) hS.2.2 hd hlocks)
                              · cases hp
                            · split at hp
                              · next y q1 q2 =>
                                cases hp
                                cases hlen
                                rw [q2] at hF
                                obtain ⟨c0, rfl, hF0⟩ := zF_d hF
                                cases zF_n hF0
                                exact W.mono (fun t ht => zMQ.of ht) (W.dret hx hb (hr.trans q1) (fun t ht hW => ⟨⟨x, hend hrel hP hD hS t ht hW, _, rfl, rfl⟩, hfrm hS t ht⟩) hS.2.2 hd hlocks)
                              · cases hp
                            · split at hp
                              · next q1 q2 =>
                                cases hp
                                cases hlen
                                rw [q2] at hF
                                cases zF_n hF
                                exact W.mono (fun t ht => zMQ.of ht) (W.vret hx hb (hr.trans q1) (fun t ht hW => ⟨⟨x, hend hrel hP hD hS t ht hW, rfl⟩, hfrm hS t ht⟩) hS.2.2 hd hlocks)
                              · cases hp
                            · split at hp
                              · next cn y q1 q2 =>
                                cases hp
                                cases hlen
                                rw [q2] at hF
                                obtain ⟨cv, c0, rfl, hv, hF0⟩ := zF_c hF
                                cases zF_n hF0
                                obtain ⟨bb, hbb, rfl⟩ := id hv
                                exact W.mono (fun t ht => zMQ.of ht) (W.aret hx hb (hr.trans q1) (Or.inl ⟨_, rfl⟩) (Or.inr ⟨_, rfl⟩) (fun t ht hW => ⟨⟨x, hend hrel hP hD hS t ht hW, _, rfl, hv⟩, hfrm hS t ht⟩) hS.2.2 hd hlocks)
                              · next cn y q1 q2 =>
                                cases hp
                                cases hlen
                                rw [q2] at hF
                                obtain ⟨cv, c0, rfl, hv, hF0⟩ := zF_c hF
                                cases zF_n hF0
                                obtain ⟨bb, rfl, hbb⟩ := id hv
                                exact W.mono (fun t ht => zMQ.of ht) (W.aret hx hb (hr.trans q1) (Or.inl ⟨_, rfl⟩) (Or.inr ⟨_, rfl⟩) (fun t ht hW => ⟨⟨x, hend hrel hP hD hS t ht hW, _, rfl, hv⟩, hfrm hS t ht⟩) hS.2.2 hd hlocks)
                              · cases hp
                            · cases hp
                          · split at hstp
                            · next st' hp =>
                              cases hstp
                              obtain ⟨r', h1, rfl⟩ := hrun
                              have hca : cells ≤ R.cells := by
                                have h9 : cells + r'.2.2.1 = mc := by simpa [zadd] using hmc
                                omega
                              have hcb : slots ≤ R.slots := by
                                have h9 : slots + r'.2.2.2 = ms := by simpa [zadd] using hms
                                omega
                              exact hext hx hb hml hl.1 hC hown hts hz hn0 hS hRf2 hRl2 hca hcb hd hlen hp hF (fun cs' hF' => ih _ _ h1 locs cells slots H x ws k ls cs' hrel hP hD hS hL hl hF' (by simpa [zadd] using hmc) (by simpa [zadd] using hms))
                            · cases hstp
          · cases hstp
end ZS
end
section
/-! every abstract result is a contract -/
section ZT
variable {l : Launch} {D : va_G} {tys : List (ClassId × FieldType)} {sa : Nat → Nat} {xn : Nat → String} {n0 : Nat} {zst : State → Prop} {T : zTb} {Ts Ns : List Jvm.Cond} {zcw : zM → Jvm.Cond}
theorem zCw.spec {M : zM} {s : State} {args : Array Value} {m : MethodId} (h : zCw zcw M) (hb : (zcw M).before args s = true) (hn : s.methodNamed? M.2.1 = some m) : ∃ meth c, s.vm.method? m = some meth ∧ meth.code = some c ∧ c.code = M.2.2.1 ∧ c.maxLocals = M.2.2.2.1 ∧ meth.sig.returnType = M.2.2.2.2.1 ∧ meth.locks = false ∧ (M.2.2.2.2.2.2 = [] → c.exceptionTable.isEmpty = true) := by
  rcases h with ⟨q, -⟩ | ⟨hh, q, q2⟩
  · rw [q] at hb
    obtain ⟨meth, c, h1, h2, h3, h4, h5, h6, h7, -⟩ := Cond.code_spec hn hb
    exact ⟨meth, c, h1, h2, h3, h4, h5, h6, fun _ => h7⟩
  · rw [q] at hb
    obtain ⟨m9, meth, c, hn9, h1, h2, h3, h4, -, h5, h6, -⟩ := Cond.codeWith_spec hb
    cases hn.symm.trans hn9
    exact ⟨meth, c, h1, h2, h3, h4, h5, h6, fun h => absurd h q2⟩
set_option maxHeartbeats 1000000 in
theorem zsound (hT : zTabs T Ts Ns zcw) (hty : zTys tys) (hstay : zStay n0 zst) (hext : zExtOK l T Ts Ns sa n0 zst) (hthr : zThrOK l T Ts Ns xn n0 zst) (hhan : zHanOK l T Ts Ns zcw xn zst) (hsk : zSkOK T sa n0 zst) (hNs : ∀ U : State, zst U → ∀ w ∈ Ns, ∀ a : Array Value, w.before a U = true) :
    ∀ (d mi : Nat) (as : List Value) (h : zH) (r : zRs), zX T d mi as h r → zCon l T Ts zcw D tys sa xn n0 zst d mi as h r := by
  intro d
  induction d with
  | zero => intro mi as h r hX; exact hX.elim
  | succ d ih =>
    intro mi as h r hX M hM ad cas hF
    obtain ⟨M1, n, hM1, hcat, hrun⟩ := hX
    cases hM.symm.trans hM1
    obtain ⟨hC, hplain, hMH, hcwT, hiniT, hmaxL, hinit, hcw⟩ := hT.2.2.2.1 _ _ hM
    refine MetFree.of_bodyS (code := M.2.2.1) (maxLocals := M.2.2.2.1) (ret := M.2.2.2.2.1) hplain ?_ ?_
    · intro args s m hp hn
      obtain ⟨meth, c, h1, h2, h3, h4, h5, h6, -⟩ := hcw.spec (atoms_spec (ws := zcw M :: Ts) hp _ List.mem_cons_self) hn
      exact ⟨meth, c, h1, h2, h3, h4, h5, h6⟩
    · intro p e s m args below meth c s₁ B hml hP _
      have hh0 : s₁.heap = s.heap := by rw [B.state]; rfl
      obtain ⟨rfl, ws, w1, w2, w3, w4, w5, w6⟩ := hP
      have hts0 : ∀ w ∈ zcw M :: Ts, w.before cas.toArray s = true := atoms_spec (ws := zcw M :: Ts) B.pre
      have hts : ∀ w ∈ Ts ++ Ns, w.before cas.toArray s = true := by
        intro w hw
        rcases List.mem_append.mp hw with q | q
        · exact hts0 w (List.mem_cons_of_mem _ q)
        · exact hNs s w5 w q _
      have hcwb := hts0 _ List.mem_cons_self
      have X₀ := Stand.of_body B
      have hnh : M.2.2.2.2.2.2 = [] → ∀ q ∈ c.exceptionTable.toList, ∀ pc, covers q pc = false := by
        intro hz q hq pc
        obtain ⟨meth', c', h1, h2, -, -, -, -, h7⟩ := hcw.spec hcwb B.named
        cases h1.symm.trans B.method
        cases h2.symm.trans X₀.code
        have := h7 hz
        rw [Array.isEmpty_iff] at this
        rw [this] at hq
        cases hq
      have hlen : (lg_sl cas).length ≤ M.2.2.2.1 := by
        rw [zsl_len]
        have := hF.cat
        unfold zcat at this ⊢
        rw [this]
        exact hcat
      have hl := lv_entry cas (n := M.2.2.2.1) hlen
      have K := zbody (p := p) (l := l) (e := e) (R := zrm (d + 1) r.2.2.1 r.2.2.2) (s := s) (m := m) (sargs := cas.toArray) (below := below) (meth := meth) (c := c) (D := D) (tys := tys) (sa := sa) (xn := xn) (n0 := n0) (zst := zst) (T := T) (Ts := Ts) (Ns := Ns) (zcw := zcw) (M := M) (C := M.2.1.cls) (d := d) (mc := r.2.2.1) (ms := r.2.2.2) (mi0 := mi) (CC := zX T d)
        B.exec B.bytes hml B.returns B.notSynchronized (fun q => (name_of_methodNamed B.named B.method).1.trans (hinit q)) hC (findClass_of_methodNamed B.named) (fun _ => ⟨hM, B.named, hcwb, B.method, X₀.code⟩) hnh hT hty hstay hext hthr hhan hsk hts w5 w6 w4
        (zrm_1 _ _ _) (zrm_2 _ _ _) (zrm_3 _ _ _) (zrm_4 _ _ _) (Nat.le_refl _) (Nat.le_refl _) ih ad
        n _ r hrun [] 0 0 s.heap [] ws _ _ [] (by rw [List.append_nil]; exact w1) w2 w3 va_S.rf (by rw [List.append_nil]; exact zlv_args as cas 0 hF) hl True.intro (Nat.zero_add _) (Nat.zero_add _)
      have K2 : W p l e (headSpec (zcw M :: Ts) (zrm (d + 1) r.2.2.1 r.2.2.2)).room s m cas.toArray below meth c s.heap [] 0 0 (zMQ below (zQ D (zTcl T) tys sa xn n0 zst ad r.1 r.2.1) cas.toArray s r.2.2.1 r.2.2.2 (fun q : Nat => n0 ≤ q)) (entryFrame m cas.toArray M.2.2.2.1) := by
        rw [lg_entry_eq]
        exact K
      obtain ⟨t, a1, o, b1, b2, b3, b4⟩ := K2 s₁ hh0 X₀
      exact ⟨t, o, a1, b1, b2, b3, b4⟩
end ZT
end
section
-- ===== PART A: goes FIRST, ahead of the names: the tables' words, and 'selects' of the private methods out of them =====
/-- a private method of a class that the tables say can be made, by its rows of tables_1 -/
def lw_okq (q : MethodName × Nat) : Prop := (q.1.cls ≠ "java/lang/invoke/MethodHandle" ∧ q.1.cls ≠ "java/lang/invoke/VarHandle") ∧ Cond.instantiable q.1.cls q.2 ∈ tables_1 ∧ Cond.privateMethod q.1 ∈ tables_1 ∧ Cond.instanceMethod q.1 ∈ tables_1
theorem lw_p0 : lw_okq (⟨"java/lang/Throwable", "fillInStackTrace", "(I)Ljava/lang/Throwable;"⟩, 6) := ⟨⟨by decide +kernel, by decide +kernel⟩, List.mem_of_getElem? (i := 352) (by decide +kernel), List.mem_of_getElem? (i := 350) (by decide +kernel), List.mem_of_getElem? (i := 351) (by decide +kernel)⟩
theorem lw_p1 : lw_okq (⟨"ClassReader$Pool", "loadEntry", "(III)V"⟩, 4) := ⟨⟨by decide +kernel, by decide +kernel⟩, List.mem_of_getElem? (i := 62) (by decide +kernel), List.mem_of_getElem? (i := 682) (by decide +kernel), List.mem_of_getElem? (i := 683) (by decide +kernel)⟩
theorem lw_p2 : lw_okq (⟨"ClassReader$Pool", "loadText", "(I)V"⟩, 4) := ⟨⟨by decide +kernel, by decide +kernel⟩, List.mem_of_getElem? (i := 62) (by decide +kernel), List.mem_of_getElem? (i := 690) (by decide +kernel), List.mem_of_getElem? (i := 691) (by decide +kernel)⟩
theorem lw_p3 : lw_okq (⟨"ClassReader$Pool", "loadCharacter", "(I)V"⟩, 4) := ⟨⟨by decide +kernel, by decide +kernel⟩, List.mem_of_getElem? (i := 62) (by decide +kernel), List.mem_of_getElem? (i := 698) (by decide +kernel), List.mem_of_getElem? (i := 699) (by decide +kernel)⟩
theorem lw_p4 : lw_okq (⟨"ClassReader$Pool", "loadPair", "(III)V"⟩, 4) := ⟨⟨by decide +kernel, by decide +kernel⟩, List.mem_of_getElem? (i := 62) (by decide +kernel), List.mem_of_getElem? (i := 705) (by decide +kernel), List.mem_of_getElem? (i := 706) (by decide +kernel)⟩
theorem lw_p5 : lw_okq (⟨"ClassReader$Links", "isSound", "(I)Z"⟩, 2) := ⟨⟨by decide +kernel, by decide +kernel⟩, List.mem_of_getElem? (i := 101) (by decide +kernel), List.mem_of_getElem? (i := 790) (by decide +kernel), List.mem_of_getElem? (i := 791) (by decide +kernel)⟩
theorem lw_p6 : lw_okq (⟨"ClassReader$Links", "isNaming", "(II)Z"⟩, 2) := ⟨⟨by decide +kernel, by decide +kernel⟩, List.mem_of_getElem? (i := 101) (by decide +kernel), List.mem_of_getElem? (i := 807) (by decide +kernel), List.mem_of_getElem? (i := 808) (by decide +kernel)⟩
theorem lw_p7 : lw_okq (⟨"ClassReader$Links", "isMethodNaming", "(I)Z"⟩, 2) := ⟨⟨by decide +kernel, by decide +kernel⟩, List.mem_of_getElem? (i := 101) (by decide +kernel), List.mem_of_getElem? (i := 811) (by decide +kernel), List.mem_of_getElem? (i := 812) (by decide +kernel)⟩
theorem lw_p8 : lw_okq (⟨"ClassReader$Links", "isSoundNaming", "(II)Z"⟩, 2) := ⟨⟨by decide +kernel, by decide +kernel⟩, List.mem_of_getElem? (i := 101) (by decide +kernel), List.mem_of_getElem? (i := 815) (by decide +kernel), List.mem_of_getElem? (i := 816) (by decide +kernel)⟩
theorem lw_p9 : lw_okq (⟨"ClassReader$Shape", "takePlainClass", "()I"⟩, 11) := ⟨⟨by decide +kernel, by decide +kernel⟩, List.mem_of_getElem? (i := 169) (by decide +kernel), List.mem_of_getElem? (i := 831) (by decide +kernel), List.mem_of_getElem? (i := 832) (by decide +kernel)⟩
theorem lw_p10 : lw_okq (⟨"ClassReader$Shape", "loadFieldHead", "()I"⟩, 11) := ⟨⟨by decide +kernel, by decide +kernel⟩, List.mem_of_getElem? (i := 169) (by decide +kernel), List.mem_of_getElem? (i := 847) (by decide +kernel), List.mem_of_getElem? (i := 848) (by decide +kernel)⟩
theorem lw_p11 : lw_okq (⟨"ClassReader$Shape", "isTwice", "(LClassReader$Table;I)Z"⟩, 11) := ⟨⟨by decide +kernel, by decide +kernel⟩, List.mem_of_getElem? (i := 169) (by decide +kernel), List.mem_of_getElem? (i := 875) (by decide +kernel), List.mem_of_getElem? (i := 876) (by decide +kernel)⟩
theorem lw_p12 : lw_okq (⟨"ClassReader$Attributes", "find", "(II)LClassReader$Known;"⟩, 12) := ⟨⟨by decide +kernel, by decide +kernel⟩, List.mem_of_getElem? (i := 114) (by decide +kernel), List.mem_of_getElem? (i := 894) (by decide +kernel), List.mem_of_getElem? (i := 895) (by decide +kernel)⟩
theorem lw_p13 : lw_okq (⟨"ClassReader$Attributes", "constantTag", "(I)I"⟩, 12) := ⟨⟨by decide +kernel, by decide +kernel⟩, List.mem_of_getElem? (i := 114) (by decide +kernel), List.mem_of_getElem? (i := 922) (by decide +kernel), List.mem_of_getElem? (i := 923) (by decide +kernel)⟩
theorem lw_p14 : lw_okq (⟨"ClassReader$Attributes", "loadCode", "()V"⟩, 12) := ⟨⟨by decide +kernel, by decide +kernel⟩, List.mem_of_getElem? (i := 114) (by decide +kernel), List.mem_of_getElem? (i := 929) (by decide +kernel), List.mem_of_getElem? (i := 930) (by decide +kernel)⟩
theorem lw_p15 : lw_okq (⟨"ClassReader$Attributes", "loadHandler", "(I)V"⟩, 12) := ⟨⟨by decide +kernel, by decide +kernel⟩, List.mem_of_getElem? (i := 114) (by decide +kernel), List.mem_of_getElem? (i := 938) (by decide +kernel), List.mem_of_getElem? (i := 939) (by decide +kernel)⟩
def lw_privs_1 : List (MethodName × Nat) := [(⟨"java/lang/Throwable", "fillInStackTrace", "(I)Ljava/lang/Throwable;"⟩, 6), (⟨"ClassReader$Pool", "loadEntry", "(III)V"⟩, 4), (⟨"ClassReader$Pool", "loadText", "(I)V"⟩, 4), (⟨"ClassReader$Pool", "loadCharacter", "(I)V"⟩, 4), (⟨"ClassReader$Pool", "loadPair", "(III)V"⟩, 4), (⟨"ClassReader$Links", "isSound", "(I)Z"⟩, 2), (⟨"ClassReader$Links", "isNaming", "(II)Z"⟩, 2), (⟨"ClassReader$Links", "isMethodNaming", "(I)Z"⟩, 2), (⟨"ClassReader$Links", "isSoundNaming", "(II)Z"⟩, 2), (⟨"ClassReader$Shape", "takePlainClass", "()I"⟩, 11), (⟨"ClassReader$Shape", "loadFieldHead", "()I"⟩, 11), (⟨"ClassReader$Shape", "isTwice", "(LClassReader$Table;I)Z"⟩, 11), (⟨"ClassReader$Attributes", "find", "(II)LClassReader$Known;"⟩, 12), (⟨"ClassReader$Attributes", "constantTag", "(I)I"⟩, 12), (⟨"ClassReader$Attributes", "loadCode", "()V"⟩, 12), (⟨"ClassReader$Attributes", "loadHandler", "(I)V"⟩, 12)]
theorem lw_r1 : ∀ q ∈ lw_privs_1, lw_okq q := List.forall_mem_cons.mpr ⟨lw_p0, List.forall_mem_cons.mpr ⟨lw_p1, List.forall_mem_cons.mpr ⟨lw_p2, List.forall_mem_cons.mpr ⟨lw_p3, List.forall_mem_cons.mpr ⟨lw_p4, List.forall_mem_cons.mpr ⟨lw_p5, List.forall_mem_cons.mpr ⟨lw_p6, List.forall_mem_cons.mpr ⟨lw_p7, List.forall_mem_cons.mpr ⟨lw_p8, List.forall_mem_cons.mpr ⟨lw_p9, List.forall_mem_cons.mpr ⟨lw_p10, List.forall_mem_cons.mpr ⟨lw_p11, List.forall_mem_cons.mpr ⟨lw_p12, List.forall_mem_cons.mpr ⟨lw_p13, List.forall_mem_cons.mpr ⟨lw_p14, List.forall_mem_cons.mpr ⟨lw_p15, fun _ h => absurd h List.not_mem_nil⟩⟩⟩⟩⟩⟩⟩⟩⟩⟩⟩⟩⟩⟩⟩⟩
theorem lw_p16 : lw_okq (⟨"ClassReader$Attributes", "skipAttributes", "()V"⟩, 12) := ⟨⟨by decide +kernel, by decide +kernel⟩, List.mem_of_getElem? (i := 114) (by decide +kernel), List.mem_of_getElem? (i := 946) (by decide +kernel), List.mem_of_getElem? (i := 947) (by decide +kernel)⟩
theorem lw_p17 : lw_okq (⟨"ClassReader$Attributes", "skipClasses", "()I"⟩, 12) := ⟨⟨by decide +kernel, by decide +kernel⟩, List.mem_of_getElem? (i := 114) (by decide +kernel), List.mem_of_getElem? (i := 950) (by decide +kernel), List.mem_of_getElem? (i := 951) (by decide +kernel)⟩
theorem lw_p18 : lw_okq (⟨"ClassReader$Attributes", "loadInner", "()V"⟩, 12) := ⟨⟨by decide +kernel, by decide +kernel⟩, List.mem_of_getElem? (i := 114) (by decide +kernel), List.mem_of_getElem? (i := 954) (by decide +kernel), List.mem_of_getElem? (i := 955) (by decide +kernel)⟩
theorem lw_p19 : lw_okq (⟨"ClassReader$Attributes", "loadClasses", "(LClassReader$Table;)V"⟩, 12) := ⟨⟨by decide +kernel, by decide +kernel⟩, List.mem_of_getElem? (i := 114) (by decide +kernel), List.mem_of_getElem? (i := 960) (by decide +kernel), List.mem_of_getElem? (i := 961) (by decide +kernel)⟩
theorem lw_p20 : lw_okq (⟨"ClassReader$Attributes", "loadBootstraps", "()V"⟩, 12) := ⟨⟨by decide +kernel, by decide +kernel⟩, List.mem_of_getElem? (i := 114) (by decide +kernel), List.mem_of_getElem? (i := 964) (by decide +kernel), List.mem_of_getElem? (i := 965) (by decide +kernel)⟩
theorem lw_p21 : lw_okq (⟨"ClassReader$Shape", "setAttributes", "(LClassReader$Table;II)V"⟩, 11) := ⟨⟨by decide +kernel, by decide +kernel⟩, List.mem_of_getElem? (i := 169) (by decide +kernel), List.mem_of_getElem? (i := 972) (by decide +kernel), List.mem_of_getElem? (i := 973) (by decide +kernel)⟩
theorem lw_p22 : lw_okq (⟨"ClassReader$Shape", "loadMethodHead", "()I"⟩, 11) := ⟨⟨by decide +kernel, by decide +kernel⟩, List.mem_of_getElem? (i := 169) (by decide +kernel), List.mem_of_getElem? (i := 980) (by decide +kernel), List.mem_of_getElem? (i := 981) (by decide +kernel)⟩
theorem lw_p23 : lw_okq (⟨"ClassReader$Shape", "areMatched", "(II)Z"⟩, 11) := ⟨⟨by decide +kernel, by decide +kernel⟩, List.mem_of_getElem? (i := 169) (by decide +kernel), List.mem_of_getElem? (i := 987) (by decide +kernel), List.mem_of_getElem? (i := 988) (by decide +kernel)⟩
theorem lw_p24 : lw_okq (⟨"ClassReader", "demandReading", "()V"⟩, 7) := ⟨⟨by decide +kernel, by decide +kernel⟩, List.mem_of_getElem? (i := 34) (by decide +kernel), List.mem_of_getElem? (i := 1025) (by decide +kernel), List.mem_of_getElem? (i := 1026) (by decide +kernel)⟩
theorem lw_p25 : lw_okq (⟨"ClassReader$Words", "putClass", "(I)V"⟩, 4) := ⟨⟨by decide +kernel, by decide +kernel⟩, List.mem_of_getElem? (i := 219) (by decide +kernel), List.mem_of_getElem? (i := 1121) (by decide +kernel), List.mem_of_getElem? (i := 1122) (by decide +kernel)⟩
theorem lw_p26 : lw_okq (⟨"ClassReader$Words", "putPath", "(II)V"⟩, 4) := ⟨⟨by decide +kernel, by decide +kernel⟩, List.mem_of_getElem? (i := 219) (by decide +kernel), List.mem_of_getElem? (i := 1129) (by decide +kernel), List.mem_of_getElem? (i := 1130) (by decide +kernel)⟩
theorem lw_p27 : lw_okq (⟨"ClassReader$Words", "put", "(I)V"⟩, 4) := ⟨⟨by decide +kernel, by decide +kernel⟩, List.mem_of_getElem? (i := 219) (by decide +kernel), List.mem_of_getElem? (i := 1133) (by decide +kernel), List.mem_of_getElem? (i := 1134) (by decide +kernel)⟩
theorem lw_p28 : lw_okq (⟨"ClassReader$Words", "putType", "(II)I"⟩, 4) := ⟨⟨by decide +kernel, by decide +kernel⟩, List.mem_of_getElem? (i := 219) (by decide +kernel), List.mem_of_getElem? (i := 1137) (by decide +kernel), List.mem_of_getElem? (i := 1138) (by decide +kernel)⟩
theorem lw_p29 : lw_okq (⟨"ClassReader$Words", "putWord", "(Ljava/lang/String;)V"⟩, 4) := ⟨⟨by decide +kernel, by decide +kernel⟩, List.mem_of_getElem? (i := 219) (by decide +kernel), List.mem_of_getElem? (i := 1154) (by decide +kernel), List.mem_of_getElem? (i := 1155) (by decide +kernel)⟩
theorem lw_p30 : lw_okq (⟨"ClassReader$Words", "putResult", "(I)V"⟩, 4) := ⟨⟨by decide +kernel, by decide +kernel⟩, List.mem_of_getElem? (i := 219) (by decide +kernel), List.mem_of_getElem? (i := 1161) (by decide +kernel), List.mem_of_getElem? (i := 1162) (by decide +kernel)⟩
theorem lw_p31 : lw_okq (⟨"ClassReader$Words", "putArguments", "(I)V"⟩, 4) := ⟨⟨by decide +kernel, by decide +kernel⟩, List.mem_of_getElem? (i := 219) (by decide +kernel), List.mem_of_getElem? (i := 1166) (by decide +kernel), List.mem_of_getElem? (i := 1167) (by decide +kernel)⟩
def lw_privs_2 : List (MethodName × Nat) := [(⟨"ClassReader$Attributes", "skipAttributes", "()V"⟩, 12), (⟨"ClassReader$Attributes", "skipClasses", "()I"⟩, 12), (⟨"ClassReader$Attributes", "loadInner", "()V"⟩, 12), (⟨"ClassReader$Attributes", "loadClasses", "(LClassReader$Table;)V"⟩, 12), (⟨"ClassReader$Attributes", "loadBootstraps", "()V"⟩, 12), (⟨"ClassReader$Shape", "setAttributes", "(LClassReader$Table;II)V"⟩, 11), (⟨"ClassReader$Shape", "loadMethodHead", "()I"⟩, 11), (⟨"ClassReader$Shape", "areMatched", "(II)Z"⟩, 11), (⟨"ClassReader", "demandReading", "()V"⟩, 7), (⟨"ClassReader$Words", "putClass", "(I)V"⟩, 4), (⟨"ClassReader$Words", "putPath", "(II)V"⟩, 4), (⟨"ClassReader$Words", "put", "(I)V"⟩, 4), (⟨"ClassReader$Words", "putType", "(II)I"⟩, 4), (⟨"ClassReader$Words", "putWord", "(Ljava/lang/String;)V"⟩, 4), (⟨"ClassReader$Words", "putResult", "(I)V"⟩, 4), (⟨"ClassReader$Words", "putArguments", "(I)V"⟩, 4)]
theorem lw_r2 : ∀ q ∈ lw_privs_2, lw_okq q := List.forall_mem_cons.mpr ⟨lw_p16, List.forall_mem_cons.mpr ⟨lw_p17, List.forall_mem_cons.mpr ⟨lw_p18, List.forall_mem_cons.mpr ⟨lw_p19, List.forall_mem_cons.mpr ⟨lw_p20, List.forall_mem_cons.mpr ⟨lw_p21, List.forall_mem_cons.mpr ⟨lw_p22, List.forall_mem_cons.mpr ⟨lw_p23, List.forall_mem_cons.mpr ⟨lw_p24, List.forall_mem_cons.mpr ⟨lw_p25, List.forall_mem_cons.mpr ⟨lw_p26, List.forall_mem_cons.mpr ⟨lw_p27, List.forall_mem_cons.mpr ⟨lw_p28, List.forall_mem_cons.mpr ⟨lw_p29, List.forall_mem_cons.mpr ⟨lw_p30, List.forall_mem_cons.mpr ⟨lw_p31, fun _ h => absurd h List.not_mem_nil⟩⟩⟩⟩⟩⟩⟩⟩⟩⟩⟩⟩⟩⟩⟩⟩
theorem lw_p32 : lw_okq (⟨"ClassReader$Words", "putNaming", "(II)V"⟩, 4) := ⟨⟨by decide +kernel, by decide +kernel⟩, List.mem_of_getElem? (i := 219) (by decide +kernel), List.mem_of_getElem? (i := 1170) (by decide +kernel), List.mem_of_getElem? (i := 1171) (by decide +kernel)⟩
theorem lw_p33 : lw_okq (⟨"ClassReader$Words", "putCharacters", "(II)V"⟩, 4) := ⟨⟨by decide +kernel, by decide +kernel⟩, List.mem_of_getElem? (i := 219) (by decide +kernel), List.mem_of_getElem? (i := 1175) (by decide +kernel), List.mem_of_getElem? (i := 1176) (by decide +kernel)⟩
theorem lw_p34 : lw_okq (⟨"ClassReaderModel", "readAll", "()V"⟩, 30) := ⟨⟨by decide +kernel, by decide +kernel⟩, List.mem_of_getElem? (i := 1208) (by decide +kernel), List.mem_of_getElem? (i := 1329) (by decide +kernel), List.mem_of_getElem? (i := 1330) (by decide +kernel)⟩
theorem lw_p35 : lw_okq (⟨"ClassReaderModel", "u4", "()I"⟩, 30) := ⟨⟨by decide +kernel, by decide +kernel⟩, List.mem_of_getElem? (i := 1208) (by decide +kernel), List.mem_of_getElem? (i := 1333) (by decide +kernel), List.mem_of_getElem? (i := 1334) (by decide +kernel)⟩
theorem lw_p36 : lw_okq (⟨"ClassReaderModel", "u2", "()I"⟩, 30) := ⟨⟨by decide +kernel, by decide +kernel⟩, List.mem_of_getElem? (i := 1208) (by decide +kernel), List.mem_of_getElem? (i := 1337) (by decide +kernel), List.mem_of_getElem? (i := 1338) (by decide +kernel)⟩
theorem lw_p37 : lw_okq (⟨"ClassReaderModel", "u1", "()I"⟩, 30) := ⟨⟨by decide +kernel, by decide +kernel⟩, List.mem_of_getElem? (i := 1208) (by decide +kernel), List.mem_of_getElem? (i := 1341) (by decide +kernel), List.mem_of_getElem? (i := 1342) (by decide +kernel)⟩
theorem lw_p38 : lw_okq (⟨"ClassReaderModel", "fail", "(I)Z"⟩, 30) := ⟨⟨by decide +kernel, by decide +kernel⟩, List.mem_of_getElem? (i := 1208) (by decide +kernel), List.mem_of_getElem? (i := 1345) (by decide +kernel), List.mem_of_getElem? (i := 1346) (by decide +kernel)⟩
theorem lw_p39 : lw_okq (⟨"ClassReaderModel", "isWell", "()Z"⟩, 30) := ⟨⟨by decide +kernel, by decide +kernel⟩, List.mem_of_getElem? (i := 1208) (by decide +kernel), List.mem_of_getElem? (i := 1349) (by decide +kernel), List.mem_of_getElem? (i := 1350) (by decide +kernel)⟩
theorem lw_p40 : lw_okq (⟨"ClassReaderModel", "readEntries", "()V"⟩, 30) := ⟨⟨by decide +kernel, by decide +kernel⟩, List.mem_of_getElem? (i := 1208) (by decide +kernel), List.mem_of_getElem? (i := 1355) (by decide +kernel), List.mem_of_getElem? (i := 1356) (by decide +kernel)⟩
theorem lw_p41 : lw_okq (⟨"ClassReaderModel", "readText", "()V"⟩, 30) := ⟨⟨by decide +kernel, by decide +kernel⟩, List.mem_of_getElem? (i := 1208) (by decide +kernel), List.mem_of_getElem? (i := 1359) (by decide +kernel), List.mem_of_getElem? (i := 1360) (by decide +kernel)⟩
theorem lw_p42 : lw_okq (⟨"ClassReaderModel", "checkEntries", "()V"⟩, 30) := ⟨⟨by decide +kernel, by decide +kernel⟩, List.mem_of_getElem? (i := 1208) (by decide +kernel), List.mem_of_getElem? (i := 1366) (by decide +kernel), List.mem_of_getElem? (i := 1367) (by decide +kernel)⟩
theorem lw_p43 : lw_okq (⟨"ClassReaderModel", "tagOf", "(I)I"⟩, 30) := ⟨⟨by decide +kernel, by decide +kernel⟩, List.mem_of_getElem? (i := 1208) (by decide +kernel), List.mem_of_getElem? (i := 1370) (by decide +kernel), List.mem_of_getElem? (i := 1371) (by decide +kernel)⟩
theorem lw_p44 : lw_okq (⟨"ClassReaderModel", "isGoodEntry", "(I)Z"⟩, 30) := ⟨⟨by decide +kernel, by decide +kernel⟩, List.mem_of_getElem? (i := 1208) (by decide +kernel), List.mem_of_getElem? (i := 1374) (by decide +kernel), List.mem_of_getElem? (i := 1375) (by decide +kernel)⟩
theorem lw_p45 : lw_okq (⟨"ClassReaderModel", "firstOf", "(I)I"⟩, 30) := ⟨⟨by decide +kernel, by decide +kernel⟩, List.mem_of_getElem? (i := 1208) (by decide +kernel), List.mem_of_getElem? (i := 1378) (by decide +kernel), List.mem_of_getElem? (i := 1379) (by decide +kernel)⟩
theorem lw_p46 : lw_okq (⟨"ClassReaderModel", "twoAt", "(I)I"⟩, 30) := ⟨⟨by decide +kernel, by decide +kernel⟩, List.mem_of_getElem? (i := 1208) (by decide +kernel), List.mem_of_getElem? (i := 1382) (by decide +kernel), List.mem_of_getElem? (i := 1383) (by decide +kernel)⟩
theorem lw_p47 : lw_okq (⟨"ClassReaderModel", "secondOf", "(I)I"⟩, 30) := ⟨⟨by decide +kernel, by decide +kernel⟩, List.mem_of_getElem? (i := 1208) (by decide +kernel), List.mem_of_getElem? (i := 1386) (by decide +kernel), List.mem_of_getElem? (i := 1387) (by decide +kernel)⟩
def lw_privs_3 : List (MethodName × Nat) := [(⟨"ClassReader$Words", "putNaming", "(II)V"⟩, 4), (⟨"ClassReader$Words", "putCharacters", "(II)V"⟩, 4), (⟨"ClassReaderModel", "readAll", "()V"⟩, 30), (⟨"ClassReaderModel", "u4", "()I"⟩, 30), (⟨"ClassReaderModel", "u2", "()I"⟩, 30), (⟨"ClassReaderModel", "u1", "()I"⟩, 30), (⟨"ClassReaderModel", "fail", "(I)Z"⟩, 30), (⟨"ClassReaderModel", "isWell", "()Z"⟩, 30), (⟨"ClassReaderModel", "readEntries", "()V"⟩, 30), (⟨"ClassReaderModel", "readText", "()V"⟩, 30), (⟨"ClassReaderModel", "checkEntries", "()V"⟩, 30), (⟨"ClassReaderModel", "tagOf", "(I)I"⟩, 30), (⟨"ClassReaderModel", "isGoodEntry", "(I)Z"⟩, 30), (⟨"ClassReaderModel", "firstOf", "(I)I"⟩, 30), (⟨"ClassReaderModel", "twoAt", "(I)I"⟩, 30), (⟨"ClassReaderModel", "secondOf", "(I)I"⟩, 30)]
theorem lw_r3 : ∀ q ∈ lw_privs_3, lw_okq q := List.forall_mem_cons.mpr ⟨lw_p32, List.forall_mem_cons.mpr ⟨lw_p33, List.forall_mem_cons.mpr ⟨lw_p34, List.forall_mem_cons.mpr ⟨lw_p35, List.forall_mem_cons.mpr ⟨lw_p36, List.forall_mem_cons.mpr ⟨lw_p37, List.forall_mem_cons.mpr ⟨lw_p38, List.forall_mem_cons.mpr ⟨lw_p39, List.forall_mem_cons.mpr ⟨lw_p40, List.forall_mem_cons.mpr ⟨lw_p41, List.forall_mem_cons.mpr ⟨lw_p42, List.forall_mem_cons.mpr ⟨lw_p43, List.forall_mem_cons.mpr ⟨lw_p44, List.forall_mem_cons.mpr ⟨lw_p45, List.forall_mem_cons.mpr ⟨lw_p46, List.forall_mem_cons.mpr ⟨lw_p47, fun _ h => absurd h List.not_mem_nil⟩⟩⟩⟩⟩⟩⟩⟩⟩⟩⟩⟩⟩⟩⟩⟩
theorem lw_p48 : lw_okq (⟨"ClassReaderModel", "isText", "(I)Z"⟩, 30) := ⟨⟨by decide +kernel, by decide +kernel⟩, List.mem_of_getElem? (i := 1208) (by decide +kernel), List.mem_of_getElem? (i := 1390) (by decide +kernel), List.mem_of_getElem? (i := 1391) (by decide +kernel)⟩
theorem lw_p49 : lw_okq (⟨"ClassReaderModel", "isClassName", "(I)Z"⟩, 30) := ⟨⟨by decide +kernel, by decide +kernel⟩, List.mem_of_getElem? (i := 1208) (by decide +kernel), List.mem_of_getElem? (i := 1394) (by decide +kernel), List.mem_of_getElem? (i := 1395) (by decide +kernel)⟩
theorem lw_p50 : lw_okq (⟨"ClassReaderModel", "charOf", "(II)I"⟩, 30) := ⟨⟨by decide +kernel, by decide +kernel⟩, List.mem_of_getElem? (i := 1208) (by decide +kernel), List.mem_of_getElem? (i := 1398) (by decide +kernel), List.mem_of_getElem? (i := 1399) (by decide +kernel)⟩
theorem lw_p51 : lw_okq (⟨"ClassReaderModel", "isFieldDescriptor", "(I)Z"⟩, 30) := ⟨⟨by decide +kernel, by decide +kernel⟩, List.mem_of_getElem? (i := 1208) (by decide +kernel), List.mem_of_getElem? (i := 1402) (by decide +kernel), List.mem_of_getElem? (i := 1403) (by decide +kernel)⟩
theorem lw_p52 : lw_okq (⟨"ClassReaderModel", "descriptor", "(II)I"⟩, 30) := ⟨⟨by decide +kernel, by decide +kernel⟩, List.mem_of_getElem? (i := 1208) (by decide +kernel), List.mem_of_getElem? (i := 1406) (by decide +kernel), List.mem_of_getElem? (i := 1407) (by decide +kernel)⟩
theorem lw_p53 : lw_okq (⟨"ClassReaderModel", "path", "(III)I"⟩, 30) := ⟨⟨by decide +kernel, by decide +kernel⟩, List.mem_of_getElem? (i := 1208) (by decide +kernel), List.mem_of_getElem? (i := 1413) (by decide +kernel), List.mem_of_getElem? (i := 1414) (by decide +kernel)⟩
theorem lw_p54 : lw_okq (⟨"ClassReaderModel", "charsOf", "(I)I"⟩, 30) := ⟨⟨by decide +kernel, by decide +kernel⟩, List.mem_of_getElem? (i := 1208) (by decide +kernel), List.mem_of_getElem? (i := 1417) (by decide +kernel), List.mem_of_getElem? (i := 1418) (by decide +kernel)⟩
theorem lw_p55 : lw_okq (⟨"ClassReaderModel", "isMethodDescriptor", "(I)Z"⟩, 30) := ⟨⟨by decide +kernel, by decide +kernel⟩, List.mem_of_getElem? (i := 1208) (by decide +kernel), List.mem_of_getElem? (i := 1421) (by decide +kernel), List.mem_of_getElem? (i := 1422) (by decide +kernel)⟩
theorem lw_p56 : lw_okq (⟨"ClassReaderModel", "names", "(IZ)Z"⟩, 30) := ⟨⟨by decide +kernel, by decide +kernel⟩, List.mem_of_getElem? (i := 1208) (by decide +kernel), List.mem_of_getElem? (i := 1425) (by decide +kernel), List.mem_of_getElem? (i := 1426) (by decide +kernel)⟩
theorem lw_p57 : lw_okq (⟨"ClassReaderModel", "isMethodName", "(I)Z"⟩, 30) := ⟨⟨by decide +kernel, by decide +kernel⟩, List.mem_of_getElem? (i := 1208) (by decide +kernel), List.mem_of_getElem? (i := 1429) (by decide +kernel), List.mem_of_getElem? (i := 1430) (by decide +kernel)⟩
theorem lw_p58 : lw_okq (⟨"ClassReaderModel", "isWord", "(II)Z"⟩, 30) := ⟨⟨by decide +kernel, by decide +kernel⟩, List.mem_of_getElem? (i := 1208) (by decide +kernel), List.mem_of_getElem? (i := 1433) (by decide +kernel), List.mem_of_getElem? (i := 1434) (by decide +kernel)⟩
theorem lw_p59 : lw_okq (⟨"ClassReaderModel", "wordAt", "(I)I"⟩, 30) := ⟨⟨by decide +kernel, by decide +kernel⟩, List.mem_of_getElem? (i := 1208) (by decide +kernel), List.mem_of_getElem? (i := 1437) (by decide +kernel), List.mem_of_getElem? (i := 1438) (by decide +kernel)⟩
theorem lw_p60 : lw_okq (⟨"ClassReaderModel", "isSimple", "(I)Z"⟩, 30) := ⟨⟨by decide +kernel, by decide +kernel⟩, List.mem_of_getElem? (i := 1208) (by decide +kernel), List.mem_of_getElem? (i := 1441) (by decide +kernel), List.mem_of_getElem? (i := 1442) (by decide +kernel)⟩
theorem lw_p61 : lw_okq (⟨"ClassReaderModel", "readHead", "()V"⟩, 30) := ⟨⟨by decide +kernel, by decide +kernel⟩, List.mem_of_getElem? (i := 1208) (by decide +kernel), List.mem_of_getElem? (i := 1445) (by decide +kernel), List.mem_of_getElem? (i := 1446) (by decide +kernel)⟩
theorem lw_p62 : lw_okq (⟨"ClassReaderModel", "plain", "(Z)I"⟩, 30) := ⟨⟨by decide +kernel, by decide +kernel⟩, List.mem_of_getElem? (i := 1208) (by decide +kernel), List.mem_of_getElem? (i := 1449) (by decide +kernel), List.mem_of_getElem? (i := 1450) (by decide +kernel)⟩
theorem lw_p63 : lw_okq (⟨"ClassReaderModel", "isPlain", "(I)Z"⟩, 30) := ⟨⟨by decide +kernel, by decide +kernel⟩, List.mem_of_getElem? (i := 1208) (by decide +kernel), List.mem_of_getElem? (i := 1453) (by decide +kernel), List.mem_of_getElem? (i := 1454) (by decide +kernel)⟩
def lw_privs_4 : List (MethodName × Nat) := [(⟨"ClassReaderModel", "isText", "(I)Z"⟩, 30), (⟨"ClassReaderModel", "isClassName", "(I)Z"⟩, 30), (⟨"ClassReaderModel", "charOf", "(II)I"⟩, 30), (⟨"ClassReaderModel", "isFieldDescriptor", "(I)Z"⟩, 30), (⟨"ClassReaderModel", "descriptor", "(II)I"⟩, 30), (⟨"ClassReaderModel", "path", "(III)I"⟩, 30), (⟨"ClassReaderModel", "charsOf", "(I)I"⟩, 30), (⟨"ClassReaderModel", "isMethodDescriptor", "(I)Z"⟩, 30), (⟨"ClassReaderModel", "names", "(IZ)Z"⟩, 30), (⟨"ClassReaderModel", "isMethodName", "(I)Z"⟩, 30), (⟨"ClassReaderModel", "isWord", "(II)Z"⟩, 30), (⟨"ClassReaderModel", "wordAt", "(I)I"⟩, 30), (⟨"ClassReaderModel", "isSimple", "(I)Z"⟩, 30), (⟨"ClassReaderModel", "readHead", "()V"⟩, 30), (⟨"ClassReaderModel", "plain", "(Z)I"⟩, 30), (⟨"ClassReaderModel", "isPlain", "(I)Z"⟩, 30)]
theorem lw_r4 : ∀ q ∈ lw_privs_4, lw_okq q := List.forall_mem_cons.mpr ⟨lw_p48, List.forall_mem_cons.mpr ⟨lw_p49, List.forall_mem_cons.mpr ⟨lw_p50, List.forall_mem_cons.mpr ⟨lw_p51, List.forall_mem_cons.mpr ⟨lw_p52, List.forall_mem_cons.mpr ⟨lw_p53, List.forall_mem_cons.mpr ⟨lw_p54, List.forall_mem_cons.mpr ⟨lw_p55, List.forall_mem_cons.mpr ⟨lw_p56, List.forall_mem_cons.mpr ⟨lw_p57, List.forall_mem_cons.mpr ⟨lw_p58, List.forall_mem_cons.mpr ⟨lw_p59, List.forall_mem_cons.mpr ⟨lw_p60, List.forall_mem_cons.mpr ⟨lw_p61, List.forall_mem_cons.mpr ⟨lw_p62, List.forall_mem_cons.mpr ⟨lw_p63, fun _ h => absurd h List.not_mem_nil⟩⟩⟩⟩⟩⟩⟩⟩⟩⟩⟩⟩⟩⟩⟩⟩
theorem lw_p64 : lw_okq (⟨"ClassReaderModel", "readMembers", "(Z)V"⟩, 30) := ⟨⟨by decide +kernel, by decide +kernel⟩, List.mem_of_getElem? (i := 1208) (by decide +kernel), List.mem_of_getElem? (i := 1457) (by decide +kernel), List.mem_of_getElem? (i := 1458) (by decide +kernel)⟩
theorem lw_p65 : lw_okq (⟨"ClassReaderModel", "readMember", "(ZII)V"⟩, 30) := ⟨⟨by decide +kernel, by decide +kernel⟩, List.mem_of_getElem? (i := 1208) (by decide +kernel), List.mem_of_getElem? (i := 1461) (by decide +kernel), List.mem_of_getElem? (i := 1462) (by decide +kernel)⟩
theorem lw_p66 : lw_okq (⟨"ClassReaderModel", "isDescribed", "(ZII)Z"⟩, 30) := ⟨⟨by decide +kernel, by decide +kernel⟩, List.mem_of_getElem? (i := 1208) (by decide +kernel), List.mem_of_getElem? (i := 1468) (by decide +kernel), List.mem_of_getElem? (i := 1469) (by decide +kernel)⟩
theorem lw_p67 : lw_okq (⟨"ClassReaderModel", "areSame", "(II)Z"⟩, 30) := ⟨⟨by decide +kernel, by decide +kernel⟩, List.mem_of_getElem? (i := 1208) (by decide +kernel), List.mem_of_getElem? (i := 1472) (by decide +kernel), List.mem_of_getElem? (i := 1473) (by decide +kernel)⟩
theorem lw_p68 : lw_okq (⟨"ClassReaderModel", "readAttributes", "(II)I"⟩, 30) := ⟨⟨by decide +kernel, by decide +kernel⟩, List.mem_of_getElem? (i := 1208) (by decide +kernel), List.mem_of_getElem? (i := 1476) (by decide +kernel), List.mem_of_getElem? (i := 1477) (by decide +kernel)⟩
theorem lw_p69 : lw_okq (⟨"ClassReaderModel", "knownOf", "(II)I"⟩, 30) := ⟨⟨by decide +kernel, by decide +kernel⟩, List.mem_of_getElem? (i := 1208) (by decide +kernel), List.mem_of_getElem? (i := 1480) (by decide +kernel), List.mem_of_getElem? (i := 1481) (by decide +kernel)⟩
theorem lw_p70 : lw_okq (⟨"ClassReaderModel", "readKnown", "(II)V"⟩, 30) := ⟨⟨by decide +kernel, by decide +kernel⟩, List.mem_of_getElem? (i := 1208) (by decide +kernel), List.mem_of_getElem? (i := 1484) (by decide +kernel), List.mem_of_getElem? (i := 1485) (by decide +kernel)⟩
theorem lw_p71 : lw_okq (⟨"ClassReaderModel", "readConstant", "(I)V"⟩, 30) := ⟨⟨by decide +kernel, by decide +kernel⟩, List.mem_of_getElem? (i := 1208) (by decide +kernel), List.mem_of_getElem? (i := 1488) (by decide +kernel), List.mem_of_getElem? (i := 1489) (by decide +kernel)⟩
theorem lw_p72 : lw_okq (⟨"ClassReaderModel", "readCode", "(I)V"⟩, 30) := ⟨⟨by decide +kernel, by decide +kernel⟩, List.mem_of_getElem? (i := 1208) (by decide +kernel), List.mem_of_getElem? (i := 1492) (by decide +kernel), List.mem_of_getElem? (i := 1493) (by decide +kernel)⟩
theorem lw_p73 : lw_okq (⟨"ClassReaderModel", "wants", "(IZ)V"⟩, 30) := ⟨⟨by decide +kernel, by decide +kernel⟩, List.mem_of_getElem? (i := 1208) (by decide +kernel), List.mem_of_getElem? (i := 1496) (by decide +kernel), List.mem_of_getElem? (i := 1497) (by decide +kernel)⟩
theorem lw_p74 : lw_okq (⟨"ClassReaderModel", "skipAttributes", "()V"⟩, 30) := ⟨⟨by decide +kernel, by decide +kernel⟩, List.mem_of_getElem? (i := 1208) (by decide +kernel), List.mem_of_getElem? (i := 1500) (by decide +kernel), List.mem_of_getElem? (i := 1501) (by decide +kernel)⟩
theorem lw_p75 : lw_okq (⟨"ClassReaderModel", "readWhole", "(I)V"⟩, 30) := ⟨⟨by decide +kernel, by decide +kernel⟩, List.mem_of_getElem? (i := 1208) (by decide +kernel), List.mem_of_getElem? (i := 1504) (by decide +kernel), List.mem_of_getElem? (i := 1505) (by decide +kernel)⟩
theorem lw_p76 : lw_okq (⟨"ClassReaderModel", "readBootstrap", "(I)V"⟩, 30) := ⟨⟨by decide +kernel, by decide +kernel⟩, List.mem_of_getElem? (i := 1208) (by decide +kernel), List.mem_of_getElem? (i := 1508) (by decide +kernel), List.mem_of_getElem? (i := 1509) (by decide +kernel)⟩
theorem lw_p77 : lw_okq (⟨"ClassReaderModel", "isAsked", "()Z"⟩, 30) := ⟨⟨by decide +kernel, by decide +kernel⟩, List.mem_of_getElem? (i := 1208) (by decide +kernel), List.mem_of_getElem? (i := 1520) (by decide +kernel), List.mem_of_getElem? (i := 1521) (by decide +kernel)⟩
theorem lw_p78 : lw_okq (⟨"ClassReaderModel", "fourAt", "(I)I"⟩, 30) := ⟨⟨by decide +kernel, by decide +kernel⟩, List.mem_of_getElem? (i := 1208) (by decide +kernel), List.mem_of_getElem? (i := 1524) (by decide +kernel), List.mem_of_getElem? (i := 1525) (by decide +kernel)⟩
theorem lw_p79 : lw_okq (⟨"ClassReaderModel", "sayEntry", "(I)I"⟩, 30) := ⟨⟨by decide +kernel, by decide +kernel⟩, List.mem_of_getElem? (i := 1208) (by decide +kernel), List.mem_of_getElem? (i := 1550) (by decide +kernel), List.mem_of_getElem? (i := 1551) (by decide +kernel)⟩
def lw_privs_5 : List (MethodName × Nat) := [(⟨"ClassReaderModel", "readMembers", "(Z)V"⟩, 30), (⟨"ClassReaderModel", "readMember", "(ZII)V"⟩, 30), (⟨"ClassReaderModel", "isDescribed", "(ZII)Z"⟩, 30), (⟨"ClassReaderModel", "areSame", "(II)Z"⟩, 30), (⟨"ClassReaderModel", "readAttributes", "(II)I"⟩, 30), (⟨"ClassReaderModel", "knownOf", "(II)I"⟩, 30), (⟨"ClassReaderModel", "readKnown", "(II)V"⟩, 30), (⟨"ClassReaderModel", "readConstant", "(I)V"⟩, 30), (⟨"ClassReaderModel", "readCode", "(I)V"⟩, 30), (⟨"ClassReaderModel", "wants", "(IZ)V"⟩, 30), (⟨"ClassReaderModel", "skipAttributes", "()V"⟩, 30), (⟨"ClassReaderModel", "readWhole", "(I)V"⟩, 30), (⟨"ClassReaderModel", "readBootstrap", "(I)V"⟩, 30), (⟨"ClassReaderModel", "isAsked", "()Z"⟩, 30), (⟨"ClassReaderModel", "fourAt", "(I)I"⟩, 30), (⟨"ClassReaderModel", "sayEntry", "(I)I"⟩, 30)]
theorem lw_r5 : ∀ q ∈ lw_privs_5, lw_okq q := List.forall_mem_cons.mpr ⟨lw_p64, List.forall_mem_cons.mpr ⟨lw_p65, List.forall_mem_cons.mpr ⟨lw_p66, List.forall_mem_cons.mpr ⟨lw_p67, List.forall_mem_cons.mpr ⟨lw_p68, List.forall_mem_cons.mpr ⟨lw_p69, List.forall_mem_cons.mpr ⟨lw_p70, List.forall_mem_cons.mpr ⟨lw_p71, List.forall_mem_cons.mpr ⟨lw_p72, List.forall_mem_cons.mpr ⟨lw_p73, List.forall_mem_cons.mpr ⟨lw_p74, List.forall_mem_cons.mpr ⟨lw_p75, List.forall_mem_cons.mpr ⟨lw_p76, List.forall_mem_cons.mpr ⟨lw_p77, List.forall_mem_cons.mpr ⟨lw_p78, List.forall_mem_cons.mpr ⟨lw_p79, fun _ h => absurd h List.not_mem_nil⟩⟩⟩⟩⟩⟩⟩⟩⟩⟩⟩⟩⟩⟩⟩⟩
theorem lw_p80 : lw_okq (⟨"ClassReaderModel", "sayClass", "(II)I"⟩, 30) := ⟨⟨by decide +kernel, by decide +kernel⟩, List.mem_of_getElem? (i := 1208) (by decide +kernel), List.mem_of_getElem? (i := 1554) (by decide +kernel), List.mem_of_getElem? (i := 1555) (by decide +kernel)⟩
theorem lw_p81 : lw_okq (⟨"ClassReaderModel", "sayType", "(III)I"⟩, 30) := ⟨⟨by decide +kernel, by decide +kernel⟩, List.mem_of_getElem? (i := 1208) (by decide +kernel), List.mem_of_getElem? (i := 1558) (by decide +kernel), List.mem_of_getElem? (i := 1559) (by decide +kernel)⟩
theorem lw_p82 : lw_okq (⟨"ClassReaderModel", "sayPath", "(IIII)I"⟩, 30) := ⟨⟨by decide +kernel, by decide +kernel⟩, List.mem_of_getElem? (i := 1208) (by decide +kernel), List.mem_of_getElem? (i := 1562) (by decide +kernel), List.mem_of_getElem? (i := 1563) (by decide +kernel)⟩
theorem lw_p83 : lw_okq (⟨"ClassReaderModel", "say", "(II)I"⟩, 30) := ⟨⟨by decide +kernel, by decide +kernel⟩, List.mem_of_getElem? (i := 1208) (by decide +kernel), List.mem_of_getElem? (i := 1566) (by decide +kernel), List.mem_of_getElem? (i := 1567) (by decide +kernel)⟩
theorem lw_p84 : lw_okq (⟨"ClassReaderModel", "sayWord", "(II)I"⟩, 30) := ⟨⟨by decide +kernel, by decide +kernel⟩, List.mem_of_getElem? (i := 1208) (by decide +kernel), List.mem_of_getElem? (i := 1570) (by decide +kernel), List.mem_of_getElem? (i := 1571) (by decide +kernel)⟩
theorem lw_p85 : lw_okq (⟨"ClassReaderModel", "sayNaming", "(III)I"⟩, 30) := ⟨⟨by decide +kernel, by decide +kernel⟩, List.mem_of_getElem? (i := 1208) (by decide +kernel), List.mem_of_getElem? (i := 1574) (by decide +kernel), List.mem_of_getElem? (i := 1575) (by decide +kernel)⟩
theorem lw_p86 : lw_okq (⟨"ClassReaderModel", "sayTypes", "(II)I"⟩, 30) := ⟨⟨by decide +kernel, by decide +kernel⟩, List.mem_of_getElem? (i := 1208) (by decide +kernel), List.mem_of_getElem? (i := 1578) (by decide +kernel), List.mem_of_getElem? (i := 1579) (by decide +kernel)⟩
theorem lw_p87 : lw_okq (⟨"ClassReaderModel", "slotsOf", "(ZI)I"⟩, 30) := ⟨⟨by decide +kernel, by decide +kernel⟩, List.mem_of_getElem? (i := 1208) (by decide +kernel), List.mem_of_getElem? (i := 1590) (by decide +kernel), List.mem_of_getElem? (i := 1591) (by decide +kernel)⟩
def lw_privs_6 : List (MethodName × Nat) := [(⟨"ClassReaderModel", "sayClass", "(II)I"⟩, 30), (⟨"ClassReaderModel", "sayType", "(III)I"⟩, 30), (⟨"ClassReaderModel", "sayPath", "(IIII)I"⟩, 30), (⟨"ClassReaderModel", "say", "(II)I"⟩, 30), (⟨"ClassReaderModel", "sayWord", "(II)I"⟩, 30), (⟨"ClassReaderModel", "sayNaming", "(III)I"⟩, 30), (⟨"ClassReaderModel", "sayTypes", "(II)I"⟩, 30), (⟨"ClassReaderModel", "slotsOf", "(ZI)I"⟩, 30)]
theorem lw_r6 : ∀ q ∈ lw_privs_6, lw_okq q := List.forall_mem_cons.mpr ⟨lw_p80, List.forall_mem_cons.mpr ⟨lw_p81, List.forall_mem_cons.mpr ⟨lw_p82, List.forall_mem_cons.mpr ⟨lw_p83, List.forall_mem_cons.mpr ⟨lw_p84, List.forall_mem_cons.mpr ⟨lw_p85, List.forall_mem_cons.mpr ⟨lw_p86, List.forall_mem_cons.mpr ⟨lw_p87, fun _ h => absurd h List.not_mem_nil⟩⟩⟩⟩⟩⟩⟩⟩
def lw_privs : List (MethodName × Nat) := lw_privs_1 ++ (lw_privs_2 ++ (lw_privs_3 ++ (lw_privs_4 ++ (lw_privs_5 ++ (lw_privs_6)))))
def lw_tbl : List Cond := k2_sels lw_privs ++ tables_1
theorem lw_privs_ok : ∀ q ∈ lw_privs, lw_okq q := by
  show ∀ q ∈ lw_privs_1 ++ (lw_privs_2 ++ (lw_privs_3 ++ (lw_privs_4 ++ (lw_privs_5 ++ (lw_privs_6))))), lw_okq q
  exact List.forall_mem_append.mpr ⟨lw_r1, List.forall_mem_append.mpr ⟨lw_r2, List.forall_mem_append.mpr ⟨lw_r3, List.forall_mem_append.mpr ⟨lw_r4, List.forall_mem_append.mpr ⟨lw_r5, lw_r6⟩⟩⟩⟩⟩
end
section
/-! the tables of this class, of the reference and of the law: printed by a program of mine (wip/whole/gen_tables.py) out of what TURN laid -/
def qcn : List String := ["ClassReader", "ClassReader$Source", "ClassReader$Pool", "ClassReader$Table", "ClassReader$Links", "ClassReader$Attributes", "ClassReader$Shape", "ClassReader$Words", "ClassReaderModel", "ClassReader$Grammar", "ClassReader$Decimal", "ClassReaderLaw", "java/util/Arrays", "java/lang/Integer", "java/lang/String", "java/lang/StringLatin1", "jdk/internal/util/Preconditions"]
def qF0 : u_T := fun k => match k with
  | 0 => ("ClassReader", "source", "LClassReader$Source;", true)
  | 1 => ("ClassReader", "pool", "LClassReader$Pool;", true)
  | 2 => ("ClassReader", "links", "LClassReader$Links;", true)
  | 3 => ("ClassReader", "attributes", "LClassReader$Attributes;", true)
  | 4 => ("ClassReader", "shape", "LClassReader$Shape;", true)
  | 5 => ("ClassReader", "words", "LClassReader$Words;", true)
  | _ => ("ClassReader", "isRead", "Z", false)
def qt0 : Nat → FieldType := fun k => match k with
  | 0 => .object "ClassReader$Source"
  | 1 => .object "ClassReader$Pool"
  | 2 => .object "ClassReader$Links"
  | 3 => .object "ClassReader$Attributes"
  | 4 => .object "ClassReader$Shape"
  | 5 => .object "ClassReader$Words"
  | _ => .boolean
def qF1 : u_T := fun k => match k with
  | 0 => ("ClassReader$Source", "file", "[I", true)
  | 1 => ("ClassReader$Source", "size", "I", false)
  | 2 => ("ClassReader$Source", "at", "I", false)
  | _ => ("ClassReader$Source", "fault", "I", false)
def qt1 : Nat → FieldType := fun k => match k with
  | 0 => .array (.int)
  | 1 => .int
  | 2 => .int
  | _ => .int
def qF2 : u_T := fun k => match k with
  | 0 => ("ClassReader$Pool", "source", "LClassReader$Source;", true)
  | 1 => ("ClassReader$Pool", "entries", "LClassReader$Table;", true)
  | 2 => ("ClassReader$Pool", "characters", "[I", true)
  | _ => ("ClassReader$Pool", "used", "I", false)
def qt2 : Nat → FieldType := fun k => match k with
  | 0 => .object "ClassReader$Source"
  | 1 => .object "ClassReader$Table"
  | 2 => .array (.int)
  | _ => .int
def qF3 : u_T := fun k => match k with
  | 0 => ("ClassReader$Table", "width", "I", true)
  | 1 => ("ClassReader$Table", "cells", "[I", true)
  | _ => ("ClassReader$Table", "rows", "I", false)
def qt3 : Nat → FieldType := fun k => match k with
  | 0 => .int
  | 1 => .array (.int)
  | _ => .int
def qF4 : u_T := fun k => match k with
  | 0 => ("ClassReader$Links", "source", "LClassReader$Source;", true)
  | _ => ("ClassReader$Links", "pool", "LClassReader$Pool;", true)
def qt4 : Nat → FieldType := fun k => match k with
  | 0 => .object "ClassReader$Source"
  | _ => .object "ClassReader$Pool"
def qF5 : u_T := fun k => match k with
  | 0 => ("ClassReader$Attributes", "source", "LClassReader$Source;", true)
  | 1 => ("ClassReader$Attributes", "pool", "LClassReader$Pool;", true)
  | 2 => ("ClassReader$Attributes", "value", "I", false)
  | 3 => ("ClassReader$Attributes", "handlers", "I", false)
  | 4 => ("ClassReader$Attributes", "thrown", "I", false)
  | 5 => ("ClassReader$Attributes", "host", "I", false)
  | 6 => ("ClassReader$Attributes", "enclosingClass", "I", false)
  | 7 => ("ClassReader$Attributes", "enclosingNaming", "I", false)
  | 8 => ("ClassReader$Attributes", "nest", "LClassReader$Table;", true)
  | 9 => ("ClassReader$Attributes", "permitted", "LClassReader$Table;", true)
  | 10 => ("ClassReader$Attributes", "inner", "LClassReader$Table;", true)
  | _ => ("ClassReader$Attributes", "bootstraps", "LClassReader$Table;", true)
def qt5 : Nat → FieldType := fun k => match k with
  | 0 => .object "ClassReader$Source"
  | 1 => .object "ClassReader$Pool"
  | 2 => .int
  | 3 => .int
  | 4 => .int
  | 5 => .int
  | 6 => .int
  | 7 => .int
  | 8 => .object "ClassReader$Table"
  | 9 => .object "ClassReader$Table"
  | 10 => .object "ClassReader$Table"
  | _ => .object "ClassReader$Table"
def qF6 : u_T := fun k => match k with
  | 0 => ("ClassReader$Shape", "source", "LClassReader$Source;", true)
  | 1 => ("ClassReader$Shape", "pool", "LClassReader$Pool;", true)
  | 2 => ("ClassReader$Shape", "attributes", "LClassReader$Attributes;", true)
  | 3 => ("ClassReader$Shape", "interfaces", "LClassReader$Table;", true)
  | 4 => ("ClassReader$Shape", "fields", "LClassReader$Table;", true)
  | 5 => ("ClassReader$Shape", "methods", "LClassReader$Table;", true)
  | 6 => ("ClassReader$Shape", "minor", "I", false)
  | 7 => ("ClassReader$Shape", "major", "I", false)
  | 8 => ("ClassReader$Shape", "flags", "I", false)
  | 9 => ("ClassReader$Shape", "self", "I", false)
  | _ => ("ClassReader$Shape", "parent", "I", false)
def qt6 : Nat → FieldType := fun k => match k with
  | 0 => .object "ClassReader$Source"
  | 1 => .object "ClassReader$Pool"
  | 2 => .object "ClassReader$Attributes"
  | 3 => .object "ClassReader$Table"
  | 4 => .object "ClassReader$Table"
  | 5 => .object "ClassReader$Table"
  | 6 => .int
  | 7 => .int
  | 8 => .int
  | 9 => .int
  | _ => .int
def qF7 : u_T := fun k => match k with
  | 0 => ("ClassReader$Words", "pool", "LClassReader$Pool;", true)
  | 1 => ("ClassReader$Words", "wanted", "I", false)
  | 2 => ("ClassReader$Words", "count", "I", false)
  | _ => ("ClassReader$Words", "found", "I", false)
def qt7 : Nat → FieldType := fun k => match k with
  | 0 => .object "ClassReader$Pool"
  | 1 => .int
  | 2 => .int
  | _ => .int
def qF8 : u_T := fun k => match k with
  | 0 => ("ClassReaderModel", "letters", "[I", true)
  | 1 => ("ClassReaderModel", "file", "[I", true)
  | 2 => ("ClassReaderModel", "kept", "[I", true)
  | 3 => ("ClassReaderModel", "size", "I", false)
  | 4 => ("ClassReaderModel", "length", "I", false)
  | 5 => ("ClassReaderModel", "at", "I", false)
  | 6 => ("ClassReaderModel", "fault", "I", false)
  | 7 => ("ClassReaderModel", "thrown", "I", false)
  | 8 => ("ClassReaderModel", "unknown", "Z", false)
  | 9 => ("ClassReaderModel", "isRead", "Z", false)
  | 10 => ("ClassReaderModel", "place", "[I", true)
  | 11 => ("ClassReaderModel", "entries", "I", false)
  | 12 => ("ClassReaderModel", "flags", "I", false)
  | 13 => ("ClassReaderModel", "self", "I", false)
  | 14 => ("ClassReaderModel", "above", "I", false)
  | 15 => ("ClassReaderModel", "faces", "I", false)
  | 16 => ("ClassReaderModel", "facesAt", "I", false)
  | 17 => ("ClassReaderModel", "memberAt", "[I", true)
  | 18 => ("ClassReaderModel", "attributes", "[I", true)
  | 19 => ("ClassReaderModel", "inside", "[I", true)
  | 20 => ("ClassReaderModel", "rows", "[I", true)
  | 21 => ("ClassReaderModel", "named", "[I", true)
  | 22 => ("ClassReaderModel", "members", "[I", true)
  | 23 => ("ClassReaderModel", "startOf", "[I", true)
  | 24 => ("ClassReaderModel", "countOf", "[I", true)
  | 25 => ("ClassReaderModel", "bootAt", "[I", true)
  | 26 => ("ClassReaderModel", "met", "[Z", true)
  | 27 => ("ClassReaderModel", "slots", "I", false)
  | 28 => ("ClassReaderModel", "signs", "I", false)
  | _ => ("ClassReaderModel", "words", "[I", true)
def qt8 : Nat → FieldType := fun k => match k with
  | 0 => .array (.int)
  | 1 => .array (.int)
  | 2 => .array (.int)
  | 3 => .int
  | 4 => .int
  | 5 => .int
  | 6 => .int
  | 7 => .int
  | 8 => .boolean
  | 9 => .boolean
  | 10 => .array (.int)
  | 11 => .int
  | 12 => .int
  | 13 => .int
  | 14 => .int
  | 15 => .int
  | 16 => .int
  | 17 => .array (.int)
  | 18 => .array (.int)
  | 19 => .array (.int)
  | 20 => .array (.int)
  | 21 => .array (.int)
  | 22 => .array (.int)
  | 23 => .array (.int)
  | 24 => .array (.int)
  | 25 => .array (.int)
  | 26 => .array (.boolean)
  | 27 => .int
  | 28 => .int
  | _ => .array (.int)
def qcl : List vw_C := [("ClassReader", qF0, 7), ("ClassReader$Source", qF1, 4), ("ClassReader$Pool", qF2, 4), ("ClassReader$Table", qF3, 3), ("ClassReader$Links", qF4, 2), ("ClassReader$Attributes", qF5, 12), ("ClassReader$Shape", qF6, 11), ("ClassReader$Words", qF7, 4), ("ClassReaderModel", qF8, 30)]
def qty : Nat → Nat → FieldType := fun c => match c with
  | 0 => qt0
  | 1 => qt1
  | 2 => qt2
  | 3 => qt3
  | 4 => qt4
  | 5 => qt5
  | 6 => qt6
  | 7 => qt7
  | _ => qt8
abbrev qb0 : ByteArray := prog_1_method_1_code
def qm0 : zM := (0, ⟨"ClassReader", "<init>", "()V"⟩, qb0, 1, none, true, [])
abbrev qb1 : ByteArray := prog_10_method_1_code
def qm1 : zM := (1, ⟨"ClassReader$Source", "<init>", "()V"⟩, qb1, 1, none, true, [])
abbrev qb2 : ByteArray := prog_8_method_1_code
def qm2 : zM := (2, ⟨"ClassReader$Pool", "<init>", "(LClassReader$Source;)V"⟩, qb2, 2, none, true, [])
abbrev qb3 : ByteArray := prog_11_method_1_code
def qm3 : zM := (3, ⟨"ClassReader$Table", "<init>", "(II)V"⟩, qb3, 3, none, true, [])
abbrev qb4 : ByteArray := prog_7_method_1_code
def qm4 : zM := (4, ⟨"ClassReader$Links", "<init>", "(LClassReader$Source;LClassReader$Pool;)V"⟩, qb4, 3, none, true, [])
abbrev qb5 : ByteArray := prog_3_method_1_code
def qm5 : zM := (5, ⟨"ClassReader$Attributes", "<init>", "(LClassReader$Source;LClassReader$Pool;)V"⟩, qb5, 3, none, true, [])
abbrev qb6 : ByteArray := prog_9_method_1_code
def qm6 : zM := (6, ⟨"ClassReader$Shape", "<init>", "(LClassReader$Source;LClassReader$Pool;LClassReader$Attributes;)V"⟩, qb6, 4, none, true, [])
abbrev qb7 : ByteArray := prog_12_method_1_code
def qm7 : zM := (7, ⟨"ClassReader$Words", "<init>", "(LClassReader$Pool;)V"⟩, qb7, 2, none, true, [])
abbrev qb8 : ByteArray := prog_1_method_2_code
def qm8 : zM := (0, ⟨"ClassReader", "bytes", "(JI)I"⟩, qb8, 4, (some .int), false, [])
abbrev qb9 : ByteArray := prog_10_method_2_code
def qm9 : zM := (1, ⟨"ClassReader$Source", "append", "(JI)I"⟩, qb9, 5, (some .int), false, [])
abbrev qb10 : ByteArray := prog_1_method_3_code
def qm10 : zM := (0, ⟨"ClassReader", "patch", "(II)Z"⟩, qb10, 3, (some .boolean), false, [])
abbrev qb11 : ByteArray := prog_10_method_3_code
def qm11 : zM := (1, ⟨"ClassReader$Source", "change", "(II)Z"⟩, qb11, 3, (some .boolean), false, [])
abbrev qb12 : ByteArray := prog_1_method_4_code
def qm12 : zM := (0, ⟨"ClassReader", "cut", "(I)I"⟩, qb12, 2, (some .int), false, [])
abbrev qb13 : ByteArray := prog_10_method_4_code
def qm13 : zM := (1, ⟨"ClassReader$Source", "shorten", "(I)I"⟩, qb13, 3, (some .int), false, [])
abbrev qb14 : ByteArray := prog_1_method_6_code
def qm14 : zM := (0, ⟨"ClassReader", "where", "()I"⟩, qb14, 1, (some .int), false, [])
abbrev qb15 : ByteArray := prog_10_method_7_code
def qm15 : zM := (1, ⟨"ClassReader$Source", "fault", "()I"⟩, qb15, 1, (some .int), false, [])
abbrev qb16 : ByteArray := prog_1_method_5_code
def qm16 : zM := (0, ⟨"ClassReader", "read", "()I"⟩, qb16, 1, (some .int), false, [])
abbrev qb17 : ByteArray := prog_10_method_5_code
def qm17 : zM := (1, ⟨"ClassReader$Source", "rewind", "()V"⟩, qb17, 1, none, false, [])
abbrev qb18 : ByteArray := prog_9_method_2_code
def qm18 : zM := (6, ⟨"ClassReader$Shape", "loadVersion", "()V"⟩, qb18, 3, none, false, [])
abbrev qb19 : ByteArray := prog_10_method_11_code
def qm19 : zM := (1, ⟨"ClassReader$Source", "next", "(I)I"⟩, qb19, 4, (some .int), false, [])
abbrev qb20 : ByteArray := prog_10_method_8_code
def qm20 : zM := (1, ⟨"ClassReader$Source", "demand", "(ZI)V"⟩, qb20, 3, none, false, [])
abbrev qb21 : ByteArray := prog_10_method_6_code
def qm21 : zM := (1, ⟨"ClassReader$Source", "at", "()I"⟩, qb21, 1, (some .int), false, [])
abbrev qb22 : ByteArray := prog_10_method_9_code
def qm22 : zM := (1, ⟨"ClassReader$Source", "demandVersion", "(ZI)V"⟩, qb22, 3, none, false, [])
abbrev qb23 : ByteArray := prog_8_method_2_code
def qm23 : zM := (2, ⟨"ClassReader$Pool", "load", "()V"⟩, qb23, 6, none, false, [])
abbrev qb24 : ByteArray := prog_11_method_2_code
def qm24 : zM := (3, ⟨"ClassReader$Table", "clear", "()V"⟩, qb24, 1, none, false, [])
abbrev qb25 : ByteArray := prog_11_method_4_code
def qm25 : zM := (3, ⟨"ClassReader$Table", "add", "(I)I"⟩, qb25, 3, (some .int), false, [])
abbrev qb26 : ByteArray := prog_8_method_3_code
def qm26 : zM := (2, ⟨"ClassReader$Pool", "loadEntry", "(III)V"⟩, qb26, 4, none, false, [])
abbrev qb27 : ByteArray := prog_11_method_5_code
def qm27 : zM := (3, ⟨"ClassReader$Table", "set", "(III)V"⟩, qb27, 4, none, false, [])
abbrev qb28 : ByteArray := prog_8_method_5_code
def qm28 : zM := (2, ⟨"ClassReader$Pool", "loadText", "(I)V"⟩, qb28, 6, none, false, [])
abbrev qb29 : ByteArray := prog_10_method_14_code
def qm29 : zM := (1, ⟨"ClassReader$Source", "demandBytes", "(I)V"⟩, qb29, 2, none, false, [])
abbrev qb30 : ByteArray := prog_8_method_6_code
def qm30 : zM := (2, ⟨"ClassReader$Pool", "loadCharacter", "(I)V"⟩, qb30, 8, none, false, [])
abbrev qb31 : ByteArray := prog_8_method_7_code
def qm31 : zM := (2, ⟨"ClassReader$Pool", "furtherBytes", "(I)I"⟩, qb31, 1, (some .int), false, [])
abbrev qb32 : ByteArray := prog_8_method_4_code
def qm32 : zM := (2, ⟨"ClassReader$Pool", "loadPair", "(III)V"⟩, qb32, 4, none, false, [])
abbrev qb33 : ByteArray := prog_8_method_8_code
def qm33 : zM := (2, ⟨"ClassReader$Pool", "sortTexts", "()V"⟩, qb33, 2, none, false, [])
abbrev qb34 : ByteArray := prog_11_method_3_code
def qm34 : zM := (3, ⟨"ClassReader$Table", "rows", "()I"⟩, qb34, 1, (some .int), false, [])
abbrev qb35 : ByteArray := prog_8_method_13_code
def qm35 : zM := (2, ⟨"ClassReader$Pool", "tag", "(I)I"⟩, qb35, 2, (some .int), false, [])
abbrev qb36 : ByteArray := prog_11_method_6_code
def qm36 : zM := (3, ⟨"ClassReader$Table", "get", "(II)I"⟩, qb36, 3, (some .int), false, [])
abbrev qb37 : ByteArray := prog_8_method_17_code
def qm37 : zM := (2, ⟨"ClassReader$Pool", "start", "(I)I"⟩, qb37, 2, (some .int), false, [])
abbrev qb38 : ByteArray := prog_8_method_18_code
def qm38 : zM := (2, ⟨"ClassReader$Pool", "end", "(I)I"⟩, qb38, 2, (some .int), false, [])
abbrev qb39 : ByteArray := prog_5_method_2_code
def qm39 : zM := (9, ⟨"ClassReader$Grammar", "kinds", "([III)I"⟩, qb39, 4, (some .int), false, [])
abbrev qb40 : ByteArray := prog_5_method_3_code
def qm40 : zM := (9, ⟨"ClassReader$Grammar", "nameKinds", "([III)I"⟩, qb40, 6, (some .int), false, [])
abbrev qb41 : ByteArray := prog_5_method_11_code
def qm41 : zM := (9, ⟨"ClassReader$Grammar", "spells", "([IIILjava/lang/String;)Z"⟩, qb41, 5, (some .boolean), false, [])
abbrev qb42 : ByteArray := prog_5_method_4_code
def qm42 : zM := (9, ⟨"ClassReader$Grammar", "isPath", "([III)Z"⟩, qb42, 5, (some .boolean), false, [])
abbrev qb43 : ByteArray := prog_5_method_5_code
def qm43 : zM := (9, ⟨"ClassReader$Grammar", "fieldEnd", "([III)I"⟩, qb43, 5, (some .int), false, [])
abbrev qb44 : ByteArray := prog_5_method_6_code
def qm44 : zM := (9, ⟨"ClassReader$Grammar", "isBasic", "(I)Z"⟩, qb44, 1, (some .boolean), false, [])
abbrev qb45 : ByteArray := prog_5_method_8_code
def qm45 : zM := (9, ⟨"ClassReader$Grammar", "isMethodType", "([III)Z"⟩, qb45, 4, (some .boolean), false, [])
abbrev qb46 : ByteArray := prog_5_method_7_code
def qm46 : zM := (9, ⟨"ClassReader$Grammar", "closing", "([III)I"⟩, qb46, 5, (some .int), false, [])
abbrev qb47 : ByteArray := prog_7_method_2_code
def qm47 : zM := (4, ⟨"ClassReader$Links", "demandEntries", "()V"⟩, qb47, 2, none, false, [])
abbrev qb48 : ByteArray := prog_7_method_4_code
def qm48 : zM := (4, ⟨"ClassReader$Links", "isSound", "(I)Z"⟩, qb48, 4, (some .boolean), false, [])
abbrev qb49 : ByteArray := prog_8_method_14_code
def qm49 : zM := (2, ⟨"ClassReader$Pool", "first", "(I)I"⟩, qb49, 2, (some .int), false, [])
abbrev qb50 : ByteArray := prog_8_method_15_code
def qm50 : zM := (2, ⟨"ClassReader$Pool", "second", "(I)I"⟩, qb50, 2, (some .int), false, [])
abbrev qb51 : ByteArray := prog_8_method_20_code
def qm51 : zM := (2, ⟨"ClassReader$Pool", "fits", "(II)Z"⟩, qb51, 3, (some .boolean), false, [])
abbrev qb52 : ByteArray := prog_7_method_6_code
def qm52 : zM := (4, ⟨"ClassReader$Links", "isNaming", "(II)Z"⟩, qb52, 3, (some .boolean), false, [])
abbrev qb53 : ByteArray := prog_7_method_7_code
def qm53 : zM := (4, ⟨"ClassReader$Links", "isMethodNaming", "(I)Z"⟩, qb53, 3, (some .boolean), false, [])
abbrev qb54 : ByteArray := prog_7_method_5_code
def qm54 : zM := (4, ⟨"ClassReader$Links", "isSoundNaming", "(II)Z"⟩, qb54, 3, (some .boolean), false, [])
abbrev qb55 : ByteArray := prog_7_method_8_code
def qm55 : zM := (4, ⟨"ClassReader$Links", "isHandled", "(II)Z"⟩, qb55, 2, (some .boolean), false, [])
abbrev qb56 : ByteArray := prog_9_method_3_code
def qm56 : zM := (6, ⟨"ClassReader$Shape", "loadHead", "()V"⟩, qb56, 4, none, false, [])
abbrev qb57 : ByteArray := prog_9_method_9_code
def qm57 : zM := (6, ⟨"ClassReader$Shape", "areWholeFlags", "(I)Z"⟩, qb57, 3, (some .boolean), false, [])
abbrev qb58 : ByteArray := prog_9_method_4_code
def qm58 : zM := (6, ⟨"ClassReader$Shape", "takePlainClass", "()I"⟩, qb58, 2, (some .int), false, [])
abbrev qb59 : ByteArray := prog_8_method_21_code
def qm59 : zM := (2, ⟨"ClassReader$Pool", "isPlainClass", "(I)Z"⟩, qb59, 2, (some .boolean), false, [])
abbrev qb60 : ByteArray := prog_9_method_5_code
def qm60 : zM := (6, ⟨"ClassReader$Shape", "loadFields", "()V"⟩, qb60, 5, none, false, [])
abbrev qb61 : ByteArray := prog_9_method_6_code
def qm61 : zM := (6, ⟨"ClassReader$Shape", "loadFieldHead", "()I"⟩, qb61, 6, (some .int), false, [])
abbrev qb62 : ByteArray := prog_9_method_10_code
def qm62 : zM := (6, ⟨"ClassReader$Shape", "areFieldFlags", "(I)Z"⟩, qb62, 2, (some .boolean), false, [])
abbrev qb63 : ByteArray := prog_8_method_11_code
def qm63 : zM := (2, ⟨"ClassReader$Pool", "takeText", "(I)I"⟩, qb63, 3, (some .int), false, [])
abbrev qb64 : ByteArray := prog_9_method_13_code
def qm64 : zM := (6, ⟨"ClassReader$Shape", "addMember", "(LClassReader$Table;III)I"⟩, qb64, 5, (some .int), false, [])
abbrev qb65 : ByteArray := prog_8_method_25_code
def qm65 : zM := (2, ⟨"ClassReader$Pool", "character", "(II)I"⟩, qb65, 3, (some .int), false, [])
abbrev qb66 : ByteArray := prog_5_method_10_code
def qm66 : zM := (9, ⟨"ClassReader$Grammar", "isWide", "(I)Z"⟩, qb66, 1, (some .boolean), false, [])
abbrev qb67 : ByteArray := prog_9_method_15_code
def qm67 : zM := (6, ⟨"ClassReader$Shape", "isTwice", "(LClassReader$Table;I)Z"⟩, qb67, 6, (some .boolean), false, [])
abbrev qb68 : ByteArray := prog_8_method_23_code
def qm68 : zM := (2, ⟨"ClassReader$Pool", "isSame", "(II)Z"⟩, qb68, 7, (some .boolean), false, [])
abbrev qb69 : ByteArray := prog_3_method_3_code
def qm69 : zM := (5, ⟨"ClassReader$Attributes", "load", "(II)I"⟩, qb69, 11, (some .int), false, [])
abbrev qb70 : ByteArray := prog_8_method_9_code
def qm70 : zM := (2, ⟨"ClassReader$Pool", "take", "(I)I"⟩, qb70, 3, (some .int), false, [])
abbrev qb71 : ByteArray := prog_3_method_4_code
def qm71 : zM := (5, ⟨"ClassReader$Attributes", "find", "(II)LClassReader$Known;"⟩, qb71, 4, (some (.object "ClassReader$Known")), false, [])
abbrev qb72 : ByteArray := prog_8_method_22_code
def qm72 : zM := (2, ⟨"ClassReader$Pool", "spells", "(ILjava/lang/String;)Z"⟩, qb72, 3, (some .boolean), false, [])
abbrev qb73 : ByteArray := prog_10_method_12_code
def qm73 : zM := (1, ⟨"ClassReader$Source", "length", "()I"⟩, qb73, 2, (some .int), false, [])
abbrev qb74 : ByteArray := prog_3_method_5_code
def qm74 : zM := (5, ⟨"ClassReader$Attributes", "constantTag", "(I)I"⟩, qb74, 2, (some .int), false, [])
abbrev qb75 : ByteArray := prog_3_method_6_code
def qm75 : zM := (5, ⟨"ClassReader$Attributes", "loadCode", "()V"⟩, qb75, 4, none, false, [])
abbrev qb76 : ByteArray := prog_10_method_13_code
def qm76 : zM := (1, ⟨"ClassReader$Source", "skip", "(I)V"⟩, qb76, 2, none, false, [])
abbrev qb77 : ByteArray := prog_3_method_7_code
def qm77 : zM := (5, ⟨"ClassReader$Attributes", "loadHandler", "(I)V"⟩, qb77, 6, none, false, [])
abbrev qb78 : ByteArray := prog_8_method_10_code
def qm78 : zM := (2, ⟨"ClassReader$Pool", "takeOrZero", "(I)I"⟩, qb78, 3, (some .int), false, [])
abbrev qb79 : ByteArray := prog_3_method_8_code
def qm79 : zM := (5, ⟨"ClassReader$Attributes", "skipAttributes", "()V"⟩, qb79, 3, none, false, [])
abbrev qb80 : ByteArray := prog_3_method_9_code
def qm80 : zM := (5, ⟨"ClassReader$Attributes", "skipClasses", "()I"⟩, qb80, 3, (some .int), false, [])
abbrev qb81 : ByteArray := prog_3_method_11_code
def qm81 : zM := (5, ⟨"ClassReader$Attributes", "loadInner", "()V"⟩, qb81, 4, none, false, [])
abbrev qb82 : ByteArray := prog_3_method_10_code
def qm82 : zM := (5, ⟨"ClassReader$Attributes", "loadClasses", "(LClassReader$Table;)V"⟩, qb82, 4, none, false, [])
abbrev qb83 : ByteArray := prog_3_method_12_code
def qm83 : zM := (5, ⟨"ClassReader$Attributes", "loadBootstraps", "()V"⟩, qb83, 7, none, false, [])
abbrev qb84 : ByteArray := prog_3_method_13_code
def qm84 : zM := (5, ⟨"ClassReader$Attributes", "isLoadable", "(I)Z"⟩, qb84, 1, (some .boolean), false, [])
abbrev qb85 : ByteArray := prog_9_method_14_code
def qm85 : zM := (6, ⟨"ClassReader$Shape", "setAttributes", "(LClassReader$Table;II)V"⟩, qb85, 4, none, false, [])
abbrev qb86 : ByteArray := prog_9_method_7_code
def qm86 : zM := (6, ⟨"ClassReader$Shape", "loadMethods", "()V"⟩, qb86, 8, none, false, [])
abbrev qb87 : ByteArray := prog_9_method_8_code
def qm87 : zM := (6, ⟨"ClassReader$Shape", "loadMethodHead", "()I"⟩, qb87, 7, (some .int), false, [])
abbrev qb88 : ByteArray := prog_9_method_11_code
def qm88 : zM := (6, ⟨"ClassReader$Shape", "areMethodFlags", "(I)Z"⟩, qb88, 3, (some .boolean), false, [])
abbrev qb89 : ByteArray := prog_9_method_12_code
def qm89 : zM := (6, ⟨"ClassReader$Shape", "areMatched", "(II)Z"⟩, qb89, 4, (some .boolean), false, [])
abbrev qb90 : ByteArray := prog_5_method_9_code
def qm90 : zM := (9, ⟨"ClassReader$Grammar", "slots", "([III)I"⟩, qb90, 6, (some .int), false, [])
abbrev qb91 : ByteArray := prog_3_method_2_code
def qm91 : zM := (5, ⟨"ClassReader$Attributes", "loadWhole", "()V"⟩, qb91, 1, none, false, [])
abbrev qb92 : ByteArray := prog_10_method_10_code
def qm92 : zM := (1, ⟨"ClassReader$Source", "demandEnd", "()V"⟩, qb92, 1, none, false, [])
abbrev qb93 : ByteArray := prog_7_method_3_code
def qm93 : zM := (4, ⟨"ClassReader$Links", "demandBootstraps", "(I)V"⟩, qb93, 4, none, false, [])
abbrev qb94 : ByteArray := prog_1_method_7_code
def qm94 : zM := (0, ⟨"ClassReader", "entry", "(II)I"⟩, qb94, 3, (some .int), false, [])
abbrev qb95 : ByteArray := prog_1_method_14_code
def qm95 : zM := (0, ⟨"ClassReader", "demandReading", "()V"⟩, qb95, 1, none, false, [])
abbrev qb96 : ByteArray := prog_8_method_12_code
def qm96 : zM := (2, ⟨"ClassReader$Pool", "has", "(I)Z"⟩, qb96, 2, (some .boolean), false, [])
abbrev qb97 : ByteArray := prog_1_method_8_code
def qm97 : zM := (0, ⟨"ClassReader", "number", "(I)D"⟩, qb97, 2, (some .double), false, [])
abbrev qb98 : ByteArray := prog_8_method_16_code
def qm98 : zM := (2, ⟨"ClassReader$Pool", "wide", "(I)J"⟩, qb98, 2, (some .long), false, [])
abbrev qb99 : ByteArray := prog_4_method_2_code
def qm99 : zM := (10, ⟨"ClassReader$Decimal", "ofFloat", "(I)D"⟩, qb99, 6, (some .double), false, [])
abbrev qb100 : ByteArray := prog_4_method_4_code
def qm100 : zM := (10, ⟨"ClassReader$Decimal", "demandFinite", "(Z)V"⟩, qb100, 1, none, false, [])
abbrev qb101 : ByteArray := prog_4_method_5_code
def qm101 : zM := (10, ⟨"ClassReader$Decimal", "scaled", "(JI)D"⟩, qb101, 8, (some .double), false, [])
abbrev qb102 : ByteArray := prog_4_method_3_code
def qm102 : zM := (10, ⟨"ClassReader$Decimal", "ofDouble", "(J)D"⟩, qb102, 7, (some .double), false, [])
abbrev qb103 : ByteArray := prog_1_method_9_code
def qm103 : zM := (0, ⟨"ClassReader", "text", "(II)I"⟩, qb103, 3, (some .int), false, [])
abbrev qb104 : ByteArray := prog_8_method_24_code
def qm104 : zM := (2, ⟨"ClassReader$Pool", "textOf", "(I)I"⟩, qb104, 2, (some .int), false, [])
abbrev qb105 : ByteArray := prog_1_method_10_code
def qm105 : zM := (0, ⟨"ClassReader", "told", "(II)I"⟩, qb105, 3, (some .int), false, [])
abbrev qb106 : ByteArray := prog_12_method_2_code
def qm106 : zM := (7, ⟨"ClassReader$Words", "tell", "(II)I"⟩, qb106, 3, (some .int), false, [])
abbrev qb107 : ByteArray := prog_12_method_4_code
def qm107 : zM := (7, ⟨"ClassReader$Words", "putClass", "(I)V"⟩, qb107, 3, none, false, [])
abbrev qb108 : ByteArray := prog_12_method_9_code
def qm108 : zM := (7, ⟨"ClassReader$Words", "putPath", "(II)V"⟩, qb108, 4, none, false, [])
abbrev qb109 : ByteArray := prog_12_method_12_code
def qm109 : zM := (7, ⟨"ClassReader$Words", "put", "(I)V"⟩, qb109, 2, none, false, [])
abbrev qb110 : ByteArray := prog_12_method_7_code
def qm110 : zM := (7, ⟨"ClassReader$Words", "putType", "(II)I"⟩, qb110, 7, (some .int), false, [])
abbrev qb111 : ByteArray := prog_12_method_8_code
def qm111 : zM := (7, ⟨"ClassReader$Words", "basicWord", "(I)Ljava/lang/String;"⟩, qb111, 1, (some (.object "java/lang/String")), false, [])
abbrev qb112 : ByteArray := prog_12_method_11_code
def qm112 : zM := (7, ⟨"ClassReader$Words", "putWord", "(Ljava/lang/String;)V"⟩, qb112, 3, none, false, [])
abbrev qb113 : ByteArray := prog_12_method_5_code
def qm113 : zM := (7, ⟨"ClassReader$Words", "putResult", "(I)V"⟩, qb113, 3, none, false, [])
abbrev qb114 : ByteArray := prog_12_method_6_code
def qm114 : zM := (7, ⟨"ClassReader$Words", "putArguments", "(I)V"⟩, qb114, 5, none, false, [])
abbrev qb115 : ByteArray := prog_12_method_3_code
def qm115 : zM := (7, ⟨"ClassReader$Words", "putNaming", "(II)V"⟩, qb115, 6, none, false, [])
abbrev qb116 : ByteArray := prog_12_method_10_code
def qm116 : zM := (7, ⟨"ClassReader$Words", "putCharacters", "(II)V"⟩, qb116, 4, none, false, [])
abbrev qb117 : ByteArray := prog_1_method_11_code
def qm117 : zM := (0, ⟨"ClassReader", "whole", "(I)I"⟩, qb117, 2, (some .int), false, [])
abbrev qb118 : ByteArray := prog_8_method_19_code
def qm118 : zM := (2, ⟨"ClassReader$Pool", "countEntries", "()I"⟩, qb118, 3, (some .int), false, [])
abbrev qb119 : ByteArray := prog_1_method_12_code
def qm119 : zM := (0, ⟨"ClassReader", "member", "(ZII)I"⟩, qb119, 4, (some .int), false, [])
abbrev qb120 : ByteArray := prog_1_method_13_code
def qm120 : zM := (0, ⟨"ClassReader", "linkage", "(II)I"⟩, qb120, 3, (some .int), false, [])
abbrev qb121 : ByteArray := prog_1_method_15_code
def qm121 : zM := (0, ⟨"ClassReader", "listed", "(LClassReader$Table;II)I"⟩, qb121, 3, (some .int), false, [])
abbrev qb122 : ByteArray := prog_14_method_1_code
def qm122 : zM := (8, ⟨"ClassReaderModel", "<init>", "()V"⟩, qb122, 1, none, true, [])
abbrev qb123 : ByteArray := prog_14_method_2_code
def qm123 : zM := (8, ⟨"ClassReaderModel", "thrown", "()I"⟩, qb123, 1, (some .int), false, [])
abbrev qb124 : ByteArray := prog_14_method_4_code
def qm124 : zM := (8, ⟨"ClassReaderModel", "bytes", "(JI)I"⟩, qb124, 5, (some .int), false, [])
abbrev qb125 : ByteArray := prog_14_method_3_code
def qm125 : zM := (8, ⟨"ClassReaderModel", "in", "(III)Z"⟩, qb125, 3, (some .boolean), false, [])
abbrev qb126 : ByteArray := prog_14_method_5_code
def qm126 : zM := (8, ⟨"ClassReaderModel", "patch", "(II)Z"⟩, qb126, 3, (some .boolean), false, [])
abbrev qb127 : ByteArray := prog_14_method_6_code
def qm127 : zM := (8, ⟨"ClassReaderModel", "cut", "(I)I"⟩, qb127, 3, (some .int), false, [])
abbrev qb128 : ByteArray := prog_14_method_54_code
def qm128 : zM := (8, ⟨"ClassReaderModel", "read", "()I"⟩, qb128, 2, (some .int), false, [])
abbrev qb129 : ByteArray := prog_14_method_53_code
def qm129 : zM := (8, ⟨"ClassReaderModel", "readAll", "()V"⟩, qb129, 5, none, false, [])
abbrev qb130 : ByteArray := prog_14_method_11_code
def qm130 : zM := (8, ⟨"ClassReaderModel", "u4", "()I"⟩, qb130, 3, (some .int), false, [])
abbrev qb131 : ByteArray := prog_14_method_10_code
def qm131 : zM := (8, ⟨"ClassReaderModel", "u2", "()I"⟩, qb131, 3, (some .int), false, [])
abbrev qb132 : ByteArray := prog_14_method_9_code
def qm132 : zM := (8, ⟨"ClassReaderModel", "u1", "()I"⟩, qb132, 1, (some .int), false, [])
abbrev qb133 : ByteArray := prog_14_method_8_code
def qm133 : zM := (8, ⟨"ClassReaderModel", "fail", "(I)Z"⟩, qb133, 2, (some .boolean), false, [])
abbrev qb134 : ByteArray := prog_14_method_7_code
def qm134 : zM := (8, ⟨"ClassReaderModel", "isWell", "()Z"⟩, qb134, 1, (some .boolean), false, [])
abbrev qb135 : ByteArray := prog_14_method_35_code
def qm135 : zM := (8, ⟨"ClassReaderModel", "readEntries", "()V"⟩, qb135, 6, none, false, [])
abbrev qb136 : ByteArray := prog_14_method_34_code
def qm136 : zM := (8, ⟨"ClassReaderModel", "readText", "()V"⟩, qb136, 7, none, false, [])
abbrev qb137 : ByteArray := prog_14_method_17_code
def qm137 : zM := (8, ⟨"ClassReaderModel", "widthOf", "(I)I"⟩, qb137, 1, (some .int), false, [])
abbrev qb138 : ByteArray := prog_14_method_37_code
def qm138 : zM := (8, ⟨"ClassReaderModel", "checkEntries", "()V"⟩, qb138, 2, none, false, [])
abbrev qb139 : ByteArray := prog_14_method_14_code
def qm139 : zM := (8, ⟨"ClassReaderModel", "tagOf", "(I)I"⟩, qb139, 2, (some .int), false, [])
abbrev qb140 : ByteArray := prog_14_method_36_code
def qm140 : zM := (8, ⟨"ClassReaderModel", "isGoodEntry", "(I)Z"⟩, qb140, 6, (some .boolean), false, [])
abbrev qb141 : ByteArray := prog_14_method_15_code
def qm141 : zM := (8, ⟨"ClassReaderModel", "firstOf", "(I)I"⟩, qb141, 2, (some .int), false, [])
abbrev qb142 : ByteArray := prog_14_method_12_code
def qm142 : zM := (8, ⟨"ClassReaderModel", "twoAt", "(I)I"⟩, qb142, 2, (some .int), false, [])
abbrev qb143 : ByteArray := prog_14_method_16_code
def qm143 : zM := (8, ⟨"ClassReaderModel", "secondOf", "(I)I"⟩, qb143, 3, (some .int), false, [])
abbrev qb144 : ByteArray := prog_14_method_31_code
def qm144 : zM := (8, ⟨"ClassReaderModel", "isText", "(I)Z"⟩, qb144, 2, (some .boolean), false, [])
abbrev qb145 : ByteArray := prog_14_method_30_code
def qm145 : zM := (8, ⟨"ClassReaderModel", "isClassName", "(I)Z"⟩, qb145, 2, (some .boolean), false, [])
abbrev qb146 : ByteArray := prog_14_method_19_code
def qm146 : zM := (8, ⟨"ClassReaderModel", "charOf", "(II)I"⟩, qb146, 7, (some .int), false, [])
abbrev qb147 : ByteArray := prog_14_method_28_code
def qm147 : zM := (8, ⟨"ClassReaderModel", "isFieldDescriptor", "(I)Z"⟩, qb147, 3, (some .boolean), false, [])
abbrev qb148 : ByteArray := prog_14_method_27_code
def qm148 : zM := (8, ⟨"ClassReaderModel", "descriptor", "(II)I"⟩, qb148, 6, (some .int), false, [])
abbrev qb149 : ByteArray := prog_14_method_26_code
def qm149 : zM := (8, ⟨"ClassReaderModel", "base", "(I)I"⟩, qb149, 1, (some .int), false, [])
abbrev qb150 : ByteArray := prog_14_method_23_code
def qm150 : zM := (8, ⟨"ClassReaderModel", "path", "(III)I"⟩, qb150, 7, (some .int), false, [])
abbrev qb151 : ByteArray := prog_14_method_18_code
def qm151 : zM := (8, ⟨"ClassReaderModel", "charsOf", "(I)I"⟩, qb151, 5, (some .int), false, [])
abbrev qb152 : ByteArray := prog_14_method_29_code
def qm152 : zM := (8, ⟨"ClassReaderModel", "isMethodDescriptor", "(I)Z"⟩, qb152, 4, (some .boolean), false, [])
abbrev qb153 : ByteArray := prog_14_method_32_code
def qm153 : zM := (8, ⟨"ClassReaderModel", "names", "(IZ)Z"⟩, qb153, 4, (some .boolean), false, [])
abbrev qb154 : ByteArray := prog_14_method_25_code
def qm154 : zM := (8, ⟨"ClassReaderModel", "isMethodName", "(I)Z"⟩, qb154, 4, (some .boolean), false, [])
abbrev qb155 : ByteArray := prog_14_method_21_code
def qm155 : zM := (8, ⟨"ClassReaderModel", "isWord", "(II)Z"⟩, qb155, 6, (some .boolean), false, [])
abbrev qb156 : ByteArray := prog_14_method_20_code
def qm156 : zM := (8, ⟨"ClassReaderModel", "wordAt", "(I)I"⟩, qb156, 4, (some .int), false, [])
abbrev qb157 : ByteArray := prog_14_method_24_code
def qm157 : zM := (8, ⟨"ClassReaderModel", "isSimple", "(I)Z"⟩, qb157, 5, (some .boolean), false, [])
abbrev qb158 : ByteArray := prog_14_method_40_code
def qm158 : zM := (8, ⟨"ClassReaderModel", "readHead", "()V"⟩, qb158, 5, none, false, [])
abbrev qb159 : ByteArray := prog_14_method_38_code
def qm159 : zM := (8, ⟨"ClassReaderModel", "plain", "(Z)I"⟩, qb159, 4, (some .int), false, [])
abbrev qb160 : ByteArray := prog_14_method_33_code
def qm160 : zM := (8, ⟨"ClassReaderModel", "isPlain", "(I)Z"⟩, qb160, 2, (some .boolean), false, [])
abbrev qb161 : ByteArray := prog_14_method_42_code
def qm161 : zM := (8, ⟨"ClassReaderModel", "readMembers", "(Z)V"⟩, qb161, 5, none, false, [])
abbrev qb162 : ByteArray := prog_14_method_43_code
def qm162 : zM := (8, ⟨"ClassReaderModel", "readMember", "(ZII)V"⟩, qb162, 10, none, false, [])
abbrev qb163 : ByteArray := prog_14_method_41_code
def qm163 : zM := (8, ⟨"ClassReaderModel", "ways", "(I)I"⟩, qb163, 1, (some .int), false, [])
abbrev qb164 : ByteArray := prog_14_method_44_code
def qm164 : zM := (8, ⟨"ClassReaderModel", "isDescribed", "(ZII)Z"⟩, qb164, 5, (some .boolean), false, [])
abbrev qb165 : ByteArray := prog_14_method_22_code
def qm165 : zM := (8, ⟨"ClassReaderModel", "areSame", "(II)Z"⟩, qb165, 5, (some .boolean), false, [])
abbrev qb166 : ByteArray := prog_14_method_45_code
def qm166 : zM := (8, ⟨"ClassReaderModel", "readAttributes", "(II)I"⟩, qb166, 11, (some .int), false, [])
abbrev qb167 : ByteArray := prog_14_method_46_code
def qm167 : zM := (8, ⟨"ClassReaderModel", "knownOf", "(II)I"⟩, qb167, 6, (some .int), false, [])
abbrev qb168 : ByteArray := prog_14_method_47_code
def qm168 : zM := (8, ⟨"ClassReaderModel", "readKnown", "(II)V"⟩, qb168, 4, none, false, [])
abbrev qb169 : ByteArray := prog_14_method_48_code
def qm169 : zM := (8, ⟨"ClassReaderModel", "readConstant", "(I)V"⟩, qb169, 8, none, false, [])
abbrev qb170 : ByteArray := prog_14_method_49_code
def qm170 : zM := (8, ⟨"ClassReaderModel", "readCode", "(I)V"⟩, qb170, 9, none, false, [])
abbrev qb171 : ByteArray := prog_14_method_39_code
def qm171 : zM := (8, ⟨"ClassReaderModel", "wants", "(IZ)V"⟩, qb171, 5, none, false, [])
abbrev qb172 : ByteArray := prog_14_method_50_code
def qm172 : zM := (8, ⟨"ClassReaderModel", "skipAttributes", "()V"⟩, qb172, 4, none, false, [])
abbrev qb173 : ByteArray := prog_14_method_51_code
def qm173 : zM := (8, ⟨"ClassReaderModel", "readWhole", "(I)V"⟩, qb173, 4, none, false, [])
abbrev qb174 : ByteArray := prog_14_method_52_code
def qm174 : zM := (8, ⟨"ClassReaderModel", "readBootstrap", "(I)V"⟩, qb174, 7, none, false, [])
abbrev qb175 : ByteArray := prog_14_method_55_code
def qm175 : zM := (8, ⟨"ClassReaderModel", "where", "()I"⟩, qb175, 1, (some .int), false, [])
abbrev qb176 : ByteArray := prog_14_method_57_code
def qm176 : zM := (8, ⟨"ClassReaderModel", "entry", "(II)I"⟩, qb176, 5, (some .int), false, [])
abbrev qb177 : ByteArray := prog_14_method_56_code
def qm177 : zM := (8, ⟨"ClassReaderModel", "isAsked", "()Z"⟩, qb177, 1, (some .boolean), false, [])
abbrev qb178 : ByteArray := prog_14_method_13_code
def qm178 : zM := (8, ⟨"ClassReaderModel", "fourAt", "(I)I"⟩, qb178, 2, (some .int), false, [])
abbrev qb179 : ByteArray := prog_14_method_59_code
def qm179 : zM := (8, ⟨"ClassReaderModel", "number", "(I)D"⟩, qb179, 11, (some .double), false, [])
abbrev qb180 : ByteArray := prog_14_method_58_code
def qm180 : zM := (8, ⟨"ClassReaderModel", "scaled", "(JI)D"⟩, qb180, 6, (some .double), false, [])
abbrev qb181 : ByteArray := prog_14_method_60_code
def qm181 : zM := (8, ⟨"ClassReaderModel", "text", "(II)I"⟩, qb181, 6, (some .int), false, [])
abbrev qb182 : ByteArray := prog_14_method_69_code
def qm182 : zM := (8, ⟨"ClassReaderModel", "told", "(II)I"⟩, qb182, 4, (some .int), false, [])
abbrev qb183 : ByteArray := prog_14_method_68_code
def qm183 : zM := (8, ⟨"ClassReaderModel", "sayEntry", "(I)I"⟩, qb183, 5, (some .int), false, [])
abbrev qb184 : ByteArray := prog_14_method_66_code
def qm184 : zM := (8, ⟨"ClassReaderModel", "sayClass", "(II)I"⟩, qb184, 4, (some .int), false, [])
abbrev qb185 : ByteArray := prog_14_method_64_code
def qm185 : zM := (8, ⟨"ClassReaderModel", "sayType", "(III)I"⟩, qb185, 8, (some .int), false, [])
abbrev qb186 : ByteArray := prog_14_method_63_code
def qm186 : zM := (8, ⟨"ClassReaderModel", "sayPath", "(IIII)I"⟩, qb186, 7, (some .int), false, [])
abbrev qb187 : ByteArray := prog_14_method_61_code
def qm187 : zM := (8, ⟨"ClassReaderModel", "say", "(II)I"⟩, qb187, 3, (some .int), false, [])
abbrev qb188 : ByteArray := prog_14_method_62_code
def qm188 : zM := (8, ⟨"ClassReaderModel", "sayWord", "(II)I"⟩, qb188, 5, (some .int), false, [])
abbrev qb189 : ByteArray := prog_14_method_67_code
def qm189 : zM := (8, ⟨"ClassReaderModel", "sayNaming", "(III)I"⟩, qb189, 9, (some .int), false, [])
abbrev qb190 : ByteArray := prog_14_method_65_code
def qm190 : zM := (8, ⟨"ClassReaderModel", "sayTypes", "(II)I"⟩, qb190, 5, (some .int), false, [])
abbrev qb191 : ByteArray := prog_14_method_70_code
def qm191 : zM := (8, ⟨"ClassReaderModel", "whole", "(I)I"⟩, qb191, 4, (some .int), false, [])
abbrev qb192 : ByteArray := prog_14_method_72_code
def qm192 : zM := (8, ⟨"ClassReaderModel", "member", "(ZII)I"⟩, qb192, 6, (some .int), false, [])
abbrev qb193 : ByteArray := prog_14_method_71_code
def qm193 : zM := (8, ⟨"ClassReaderModel", "slotsOf", "(ZI)I"⟩, qb193, 4, (some .int), false, [])
abbrev qb194 : ByteArray := prog_14_method_73_code
def qm194 : zM := (8, ⟨"ClassReaderModel", "linkage", "(II)I"⟩, qb194, 5, (some .int), false, [])
abbrev qb195 : ByteArray := method_3_code
def qm195 : zM := (11, ⟨"ClassReaderLaw", "read", "(LClassReader;[J)I"⟩, qb195, 3, (some .int), false, [(0, 8, 11, 0), (0, 8, 14, 1)])
abbrev qb196 : ByteArray := method_4_code
def qm196 : zM := (11, ⟨"ClassReaderLaw", "entry", "(LClassReader;II[J)I"⟩, qb196, 5, (some .int), false, [(0, 10, 13, 2)])
abbrev qb197 : ByteArray := method_5_code
def qm197 : zM := (11, ⟨"ClassReaderLaw", "number", "(LClassReader;I[D)I"⟩, qb197, 4, (some .int), false, [(0, 8, 11, 2), (0, 8, 14, 3)])
abbrev qb198 : ByteArray := method_6_code
def qm198 : zM := (11, ⟨"ClassReaderLaw", "text", "(LClassReader;II[J)I"⟩, qb198, 5, (some .int), false, [(0, 10, 13, 2)])
abbrev qb199 : ByteArray := method_7_code
def qm199 : zM := (11, ⟨"ClassReaderLaw", "told", "(LClassReader;II[J)I"⟩, qb199, 5, (some .int), false, [(0, 10, 13, 2)])
abbrev qb200 : ByteArray := method_8_code
def qm200 : zM := (11, ⟨"ClassReaderLaw", "whole", "(LClassReader;I[J)I"⟩, qb200, 4, (some .int), false, [(0, 9, 12, 2)])
abbrev qb201 : ByteArray := method_9_code
def qm201 : zM := (11, ⟨"ClassReaderLaw", "member", "(LClassReader;ZII[J)I"⟩, qb201, 6, (some .int), false, [(0, 12, 15, 2)])
abbrev qb202 : ByteArray := method_10_code
def qm202 : zM := (11, ⟨"ClassReaderLaw", "linkage", "(LClassReader;II[J)I"⟩, qb202, 5, (some .int), false, [(0, 10, 13, 2)])
abbrev qb203 : ByteArray := prog_32_method_104_code
def qm203 : zM := (12, ⟨"java/util/Arrays", "fill", "([IIII)V"⟩, qb203, 5, none, false, [])
abbrev qb204 : ByteArray := prog_32_method_30_code
def qm204 : zM := (12, ⟨"java/util/Arrays", "rangeCheck", "(III)V"⟩, qb204, 3, none, false, [])
abbrev qb205 : ByteArray := prog_22_method_49_code
def qm205 : zM := (13, ⟨"java/lang/Integer", "bitCount", "(I)I"⟩, qb205, 1, (some .int), false, [])
abbrev qb206 : ByteArray := prog_25_method_54_code
def qm206 : zM := (14, ⟨"java/lang/String", "length", "()I"⟩, qb206, 1, (some .int), false, [])
abbrev qb207 : ByteArray := prog_25_method_152_code
def qm207 : zM := (14, ⟨"java/lang/String", "coder", "()B"⟩, qb207, 1, (some .byte), false, [])
abbrev qb208 : ByteArray := prog_25_method_56_code
def qm208 : zM := (14, ⟨"java/lang/String", "charAt", "(I)C"⟩, qb208, 2, (some .char), false, [])
abbrev qb209 : ByteArray := prog_25_method_154_code
def qm209 : zM := (14, ⟨"java/lang/String", "isLatin1", "()Z"⟩, qb209, 1, (some .boolean), false, [])
abbrev qb210 : ByteArray := prog_27_method_2_code
def qm210 : zM := (15, ⟨"java/lang/StringLatin1", "charAt", "([BI)C"⟩, qb210, 2, (some .char), false, [])
abbrev qb211 : ByteArray := prog_25_method_155_code
def qm211 : zM := (14, ⟨"java/lang/String", "checkIndex", "(II)V"⟩, qb211, 2, none, false, [])
abbrev qb212 : ByteArray := prog_34_method_11_code
def qm212 : zM := (16, ⟨"jdk/internal/util/Preconditions", "checkIndex", "(IILjava/util/function/BiFunction;)I"⟩, qb212, 3, (some .int), false, [])
def qms : List zM := [qm0, qm1, qm2, qm3, qm4, qm5, qm6, qm7, qm8, qm9, qm10, qm11, qm12, qm13, qm14, qm15, qm16, qm17, qm18, qm19, qm20, qm21, qm22, qm23, qm24, qm25, qm26, qm27, qm28, qm29, qm30, qm31, qm32, qm33, qm34, qm35, qm36, qm37, qm38, qm39, qm40, qm41, qm42, qm43, qm44, qm45, qm46, qm47, qm48, qm49, qm50, qm51, qm52, qm53, qm54, qm55, qm56, qm57, qm58, qm59, qm60, qm61, qm62, qm63, qm64, qm65, qm66, qm67, qm68, qm69, qm70, qm71, qm72, qm73, qm74, qm75, qm76, qm77, qm78, qm79, qm80, qm81, qm82, qm83, qm84, qm85, qm86, qm87, qm88, qm89, qm90, qm91, qm92, qm93, qm94, qm95, qm96, qm97, qm98, qm99, qm100, qm101, qm102, qm103, qm104, qm105, qm106, qm107, qm108, qm109, qm110, qm111, qm112, qm113, qm114, qm115, qm116, qm117, qm118, qm119, qm120, qm121, qm122, qm123, qm124, qm125, qm126, qm127, qm128, qm129, qm130, qm131, qm132, qm133, qm134, qm135, qm136, qm137, qm138, qm139, qm140, qm141, qm142, qm143, qm144, qm145, qm146, qm147, qm148, qm149, qm150, qm151, qm152, qm153, qm154, qm155, qm156, qm157, qm158, qm159, qm160, qm161, qm162, qm163, qm164, qm165, qm166, qm167, qm168, qm169, qm170, qm171, qm172, qm173, qm174, qm175, qm176, qm177, qm178, qm179, qm180, qm181, qm182, qm183, qm184, qm185, qm186, qm187, qm188, qm189, qm190, qm191, qm192, qm193, qm194, qm195, qm196, qm197, qm198, qm199, qm200, qm201, qm202, qm203, qm204, qm205, qm206, qm207, qm208, qm209, qm210, qm211, qm212]
def qml : List (Nat × Nat × Nat × Nat × Nat) := [(11, 46, 0, 2, 0), (0, 1, 0, 3, 0), (0, 9, 1, 2, 0), (1, 3, 0, 3, 0), (0, 18, 2, 2, 1), (2, 3, 0, 3, 0), (2, 17, 3, 2, 2), (3, 3, 0, 3, 0), (0, 27, 4, 2, 2), (4, 3, 0, 3, 0), (0, 36, 5, 2, 2), (5, 3, 0, 3, 0), (5, 21, 3, 2, 2), (0, 43, 6, 2, 3), (6, 3, 0, 3, 0), (6, 25, 3, 2, 2), (0, 52, 7, 2, 1), (7, 3, 0, 3, 0), (11, 52, 8, 1, 2), (0, 63, 9, 1, 2), (11, 57, 10, 1, 2), (0, 67, 11, 1, 2), (11, 62, 12, 1, 1), (0, 71, 13, 1, 1), (11, 75, 14, 1, 0), (0, 122, 15, 1, 0), (11, 66, 195, 0, 2), (11, 7, 16, 1, 0), (0, 75, 17, 1, 0), (0, 78, 18, 1, 0), (6, 38, 19, 1, 1), (6, 45, 20, 1, 2), (6, 57, 21, 1, 0), (6, 61, 22, 1, 2), (0, 81, 23, 1, 0), (2, 32, 24, 1, 0), (2, 35, 19, 1, 1), (2, 41, 21, 1, 0), (2, 45, 20, 1, 2), (2, 49, 25, 1, 1), (3, 22, 203, 0, 4), (12, 13, 204, 0, 3), (14, 335, 207, 1, 0), (2, 52, 26, 1, 3), (2, 56, 27, 1, 3), (2, 59, 28, 1, 1), (2, 66, 29, 1, 1), (2, 69, 30, 1, 1), (2, 72, 31, 0, 1), (2, 63, 32, 1, 3), (0, 84, 33, 1, 0), (2, 75, 34, 1, 0), (2, 78, 35, 1, 1), (2, 93, 36, 1, 2), (2, 81, 37, 1, 1), (2, 84, 38, 1, 1), (2, 87, 39, 0, 3), (9, 9, 40, 0, 3), (9, 26, 41, 0, 4), (9, 44, 206, 1, 0), (9, 50, 208, 1, 1), (14, 492, 209, 1, 0), (14, 495, 210, 0, 2), (15, 9, 211, 0, 2), (14, 1059, 212, 0, 3), (9, 15, 42, 0, 3), (9, 19, 43, 0, 3), (9, 32, 44, 0, 1), (9, 22, 45, 0, 3), (9, 36, 46, 0, 3), (0, 87, 47, 1, 0), (4, 25, 34, 1, 0), (4, 31, 48, 1, 1), (4, 49, 49, 1, 1), (4, 52, 50, 1, 1), (4, 45, 35, 1, 1), (4, 57, 51, 1, 2), (4, 61, 52, 1, 2), (4, 64, 53, 1, 1), (4, 67, 54, 1, 2), (4, 70, 55, 0, 2), (4, 35, 36, 1, 2), (4, 39, 20, 1, 2), (0, 90, 56, 1, 0), (6, 67, 57, 0, 1), (6, 71, 58, 1, 0), (6, 80, 59, 1, 1), (2, 101, 49, 1, 1), (2, 97, 51, 1, 2), (6, 85, 24, 1, 0), (6, 88, 25, 1, 1), (0, 93, 60, 1, 0), (6, 91, 61, 1, 0), (6, 109, 62, 0, 1), (6, 159, 205, 0, 1), (6, 114, 63, 1, 1), (6, 117, 64, 0, 4), (6, 127, 27, 1, 3), (6, 121, 65, 1, 2), (6, 124, 66, 0, 1), (6, 131, 67, 1, 2), (6, 96, 36, 1, 2), (6, 184, 68, 1, 2), (6, 100, 69, 1, 2), (5, 65, 19, 1, 1), (5, 71, 21, 1, 0), (5, 75, 70, 1, 1), (5, 80, 71, 1, 2), (5, 143, 72, 1, 2), (2, 113, 41, 0, 4), (5, 87, 20, 1, 2), (5, 94, 73, 1, 0), (1, 35, 19, 1, 1), (1, 39, 29, 1, 1), (5, 106, 74, 1, 1), (5, 152, 49, 1, 1), (5, 155, 65, 1, 2), (5, 109, 75, 1, 0), (5, 128, 76, 1, 1), (5, 159, 77, 1, 1), (5, 118, 78, 1, 1), (5, 162, 79, 1, 0), (5, 112, 80, 1, 0), (5, 115, 81, 1, 0), (5, 165, 25, 1, 1), (5, 168, 27, 1, 3), (5, 121, 82, 1, 1), (5, 125, 83, 1, 0), (5, 172, 35, 1, 1), (5, 175, 84, 0, 1), (6, 105, 85, 1, 3), (0, 96, 86, 1, 0), (6, 135, 87, 1, 0), (6, 138, 88, 0, 1), (6, 141, 89, 1, 2), (6, 164, 51, 1, 2), (6, 168, 72, 1, 2), (6, 172, 49, 1, 1), (6, 145, 37, 1, 1), (6, 152, 38, 1, 1), (6, 155, 90, 0, 3), (9, 41, 66, 0, 1), (0, 99, 91, 1, 0), (5, 47, 24, 1, 0), (5, 52, 69, 1, 2), (0, 102, 92, 1, 0), (1, 31, 20, 1, 2), (0, 109, 34, 1, 0), (0, 115, 93, 1, 1), (11, 79, 196, 0, 4), (11, 17, 94, 1, 2), (0, 125, 95, 1, 0), (0, 128, 96, 1, 1), (0, 132, 36, 1, 2), (11, 83, 197, 0, 3), (11, 23, 97, 1, 1), (0, 136, 35, 1, 1), (0, 139, 49, 1, 1), (0, 142, 98, 1, 1), (2, 104, 50, 1, 1), (0, 146, 99, 0, 1), (10, 7, 100, 0, 1), (10, 14, 101, 0, 2), (0, 152, 102, 0, 1), (11, 87, 198, 0, 4), (11, 29, 103, 1, 2), (0, 158, 104, 1, 1), (0, 161, 65, 1, 2), (11, 90, 199, 0, 4), (11, 32, 105, 1, 2), (0, 164, 106, 1, 2), (7, 25, 35, 1, 1), (7, 31, 107, 1, 1), (7, 35, 49, 1, 1), (7, 53, 51, 1, 2), (7, 57, 37, 1, 1), (7, 60, 38, 1, 1), (7, 73, 108, 1, 2), (7, 67, 109, 1, 1), (7, 63, 110, 1, 2), (7, 84, 43, 0, 3), (7, 87, 111, 0, 1), (7, 91, 112, 1, 1), (7, 115, 206, 1, 0), (7, 121, 208, 1, 1), (7, 38, 113, 1, 1), (7, 80, 46, 0, 3), (7, 41, 114, 1, 1), (7, 44, 115, 1, 2), (7, 48, 50, 1, 1), (7, 70, 116, 1, 2), (11, 93, 200, 0, 3), (11, 35, 117, 1, 1), (0, 192, 118, 1, 0), (2, 109, 96, 1, 1), (11, 97, 201, 0, 5), (11, 39, 119, 1, 3), (11, 101, 202, 0, 4), (11, 43, 120, 1, 2), (0, 207, 121, 0, 3), (11, 49, 122, 2, 0), (8, 1, 0, 3, 0), (11, 72, 123, 1, 0), (11, 56, 124, 1, 2), (8, 63, 125, 0, 3), (11, 61, 126, 1, 2), (11, 65, 127, 1, 1), (11, 71, 128, 1, 0), (8, 256, 129, 1, 0), (8, 155, 130, 1, 0), (8, 88, 131, 1, 0), (8, 84, 132, 1, 0), (8, 76, 133, 1, 1), (8, 80, 134, 1, 0), (8, 243, 135, 1, 0), (8, 152, 136, 1, 0), (8, 98, 137, 0, 1), (8, 246, 138, 1, 0), (8, 137, 139, 1, 1), (8, 168, 140, 1, 1), (8, 149, 141, 1, 1), (8, 91, 142, 1, 1), (8, 140, 143, 1, 1), (8, 143, 144, 1, 1), (8, 158, 145, 1, 1), (8, 107, 146, 1, 2), (8, 134, 147, 1, 1), (8, 125, 148, 1, 2), (8, 118, 149, 0, 1), (8, 121, 150, 1, 3), (8, 104, 151, 1, 1), (8, 146, 152, 1, 1), (8, 161, 153, 1, 2), (8, 165, 154, 1, 1), (8, 111, 155, 1, 2), (8, 101, 156, 1, 1), (8, 115, 157, 1, 1), (8, 249, 158, 1, 0), (8, 177, 159, 1, 1), (8, 171, 160, 1, 1), (8, 252, 161, 1, 1), (8, 193, 162, 1, 3), (8, 197, 163, 0, 1), (8, 200, 164, 1, 3), (8, 204, 165, 1, 2), (8, 207, 166, 1, 2), (8, 210, 167, 1, 2), (8, 213, 168, 1, 2), (8, 217, 169, 1, 1), (8, 221, 170, 1, 1), (8, 224, 171, 1, 2), (8, 232, 172, 1, 0), (8, 228, 173, 1, 1), (8, 235, 174, 1, 1), (11, 78, 175, 1, 0), (11, 82, 176, 1, 2), (8, 262, 177, 1, 0), (8, 265, 178, 1, 1), (11, 86, 179, 1, 1), (8, 274, 180, 0, 2), (11, 89, 181, 1, 2), (11, 92, 182, 1, 2), (8, 306, 183, 1, 1), (8, 297, 184, 1, 2), (8, 294, 185, 1, 3), (8, 287, 186, 1, 4), (8, 284, 187, 1, 2), (8, 291, 188, 1, 2), (8, 303, 189, 1, 3), (8, 300, 190, 1, 2), (11, 96, 191, 1, 1), (11, 100, 192, 1, 3), (8, 309, 193, 1, 2), (11, 103, 194, 1, 2)]
def qfl : List (Nat × Nat × Nat × Nat) := [(1, 9, 1, 0), (1, 15, 1, 1), (1, 19, 1, 2), (1, 22, 1, 3), (3, 9, 3, 0), (3, 15, 3, 1), (3, 19, 3, 2), (2, 9, 2, 0), (2, 20, 2, 1), (2, 24, 2, 2), (2, 28, 2, 3), (4, 9, 4, 0), (4, 15, 4, 1), (5, 9, 5, 0), (5, 15, 5, 1), (5, 56, 5, 2), (5, 59, 5, 3), (5, 62, 5, 4), (5, 37, 5, 5), (5, 41, 5, 6), (5, 44, 5, 7), (5, 24, 5, 8), (5, 28, 5, 9), (5, 31, 5, 10), (5, 34, 5, 11), (6, 9, 6, 0), (6, 15, 6, 1), (6, 19, 6, 2), (6, 28, 6, 3), (6, 32, 6, 4), (6, 35, 6, 5), (6, 49, 6, 6), (6, 53, 6, 7), (6, 64, 6, 8), (6, 74, 6, 9), (6, 77, 6, 10), (7, 9, 7, 0), (7, 15, 7, 1), (7, 19, 7, 2), (7, 22, 7, 3), (0, 10, 0, 0), (0, 21, 0, 1), (0, 30, 0, 2), (0, 37, 0, 3), (0, 46, 0, 4), (0, 55, 0, 5), (0, 59, 0, 6), (8, 7, 8, 0), (8, 13, 8, 1), (8, 16, 8, 2), (8, 67, 8, 3), (8, 73, 8, 4), (8, 70, 8, 5), (8, 19, 8, 6), (8, 60, 8, 7), (8, 239, 8, 8), (8, 259, 8, 9), (8, 23, 8, 10), (8, 95, 8, 11), (8, 174, 8, 12), (8, 181, 8, 13), (8, 184, 8, 14), (8, 187, 8, 15), (8, 190, 8, 16), (8, 26, 8, 17), (8, 29, 8, 18), (8, 32, 8, 19), (8, 35, 8, 20), (8, 38, 8, 21), (8, 41, 8, 22), (8, 44, 8, 23), (8, 47, 8, 24), (8, 50, 8, 25), (8, 53, 8, 26), (8, 128, 8, 27), (8, 131, 8, 28), (8, 57, 8, 29)]
def qfn : List (Nat × Nat × Nat × Nat) := [(4, 19, 2, 1), (0, 119, 2, 1), (7, 76, 2, 2), (6, 148, 2, 2), (6, 175, 5, 2), (6, 178, 5, 3), (6, 181, 5, 4), (0, 195, 5, 5), (0, 198, 5, 6), (0, 201, 5, 7), (0, 204, 5, 8), (0, 211, 5, 9), (0, 214, 5, 10), (0, 105, 5, 11), (0, 177, 6, 3), (0, 180, 6, 4), (0, 183, 6, 5), (0, 189, 6, 6), (0, 186, 6, 7), (0, 167, 6, 8), (0, 171, 6, 9), (0, 174, 6, 10)]
def qhost : Nat → Nat → String := fun _ _ => "ClassReader"
def qnl : List (Nat × Nat × Nat) := [(11, 8, 0), (0, 7, 1), (0, 16, 2), (2, 15, 3), (0, 25, 4), (0, 34, 5), (5, 19, 3), (0, 41, 6), (6, 23, 3), (0, 50, 7), (11, 47, 8)]
def qxl : List (Nat × Nat × Nat × Nat) := [(1, 25, 0, 27), (1, 28, 1, 30), (0, 217, 2, 219), (10, 24, 3, 26)]
def qkl : List (Nat × Nat × Value) := [(6, 44, .int (-889275714)), (6, 56, .int (65535)), (13, 265, .int (1431655765)), (13, 266, .int (858993459)), (13, 267, .int (252645135)), (5, 158, .int (65535)), (10, 13, .int (8388607)), (8, 238, .int (-889275714)), (8, 231, .int (65535)), (8, 272, .int (8388607)), (8, 273, .int (8388608)), (2, 107, .long (4294967295)), (10, 18, .long (8388608)), (10, 20, .long (4503599627370495)), (10, 22, .long (4503599627370496)), (8, 278, .long (4294967295)), (8, 280, .long (4503599627370495)), (8, 282, .long (4503599627370496)), (11, 50, .long (4294967295)), (0, 156, .double (13830554455654793216)), (8, 270, .double (13830554455654793216)), (8, 268, .double (4611686018427387904))]
def qcatch : Nat → Nat := fun x => match x with
  | 0 => 13
  | 1 => 15
  | 2 => 21
  | _ => 27
end
section
/-! the abstract machine's tables for this class, and that the words bear them -/
def qfind {α : Type} (L : List (Nat × Nat × α)) (k ix : Nat) : Option α := (L.find? (fun e => e.1 == k && e.2.1 == ix)).map (fun e => e.2.2)
theorem qfind_mem {α : Type} {L : List (Nat × Nat × α)} {k ix : Nat} {x : α} (h : qfind L k ix = some x) : (k, ix, x) ∈ L := by
  unfold qfind at h
  obtain ⟨e, h1, h2⟩ := Option.map_eq_some_iff.mp h
  have h3 := List.mem_of_find?_eq_some h1
  have h4 := List.find?_some h1
  simp only [Bool.and_eq_true, beq_iff_eq] at h4
  obtain ⟨h5, h6⟩ := h4
  obtain ⟨a, b, c⟩ := e
  cases h2
  cases h5
  cases h6
  exact h3
def qcw (M : zM) : Jvm.Cond := match M.2.2.2.2.2.2 with
  | [] => .code M.2.1 M.2.2.1 M.2.2.2.1 M.2.2.2.2.1
  | hs => .codeWith M.2.1 M.2.2.1 M.2.2.2.1 M.2.2.2.2.1 (hs.map (fun q => (q.1, q.2.1, q.2.2.1, qcatch q.2.2.2)))
def qown (k : Nat) : String := qcn.getD k ""
def qmet (mi : Nat) : MethodName := ((qms[mi]?).map (fun M => M.2.1)).getD ⟨"", "", ""⟩
def qwM (M : zM) : List Jvm.Cond := [qcw M, .initialized M.2.1.cls]
def qwL (e : Nat × Nat × Nat × Nat × Nat) : List Jvm.Cond := match e with
  | (k, ix, mi, kind, _) => match kind with
    | 0 => [.methodLink (qown k) ix (qmet mi), .static (qmet mi)]
    | 1 => [.methodLink (qown k) ix (qmet mi), .instanceMethod (qmet mi), .selects (qmet mi).cls (qmet mi) (qmet mi)]
    | 2 => [.methodLink (qown k) ix (qmet mi), .instanceMethod (qmet mi)]
    | _ => [.methodLink (qown k) ix objectInit, .instanceMethod objectInit, .code objectInit ⟨#[0xb1]⟩ 1 none]
def qfw (ci j : Nat) : String × String × String × Bool := match qcl[ci]? with
  | some q => q.2.1 j
  | none => ("", "", "", false)
def qwF (e : Nat × Nat × Nat × Nat) : List Jvm.Cond := [.fieldLink (qown e.1) e.2.1 (qfw e.2.2.1 e.2.2.2).1 (qfw e.2.2.1 e.2.2.2).2.1 (qfw e.2.2.1 e.2.2.2).2.2.1]
def qwN (e : Nat × Nat × Nat) : List Jvm.Cond := match qcl[e.2.2]? with
  | some q => [.classLink (qown e.1) e.2.1 q.1, .instantiable q.1 q.2.2, .initialized q.1]
  | none => []
def qwK (e : Nat × Nat × Value) : List Jvm.Cond := match e.2.2 with
  | .int x => [.constant (qown e.1) e.2.1 x]
  | .long x => [.constantLong (qown e.1) e.2.1 x]
  | .double x => [.constantDouble (qown e.1) e.2.1 x]
  | _ => []
def qTs : List Jvm.Cond := qms.flatMap qwM ++ (qml.flatMap qwL ++ (qfl.flatMap qwF ++ (qnl.flatMap qwN ++ (qkl.flatMap qwK ++ (qcl.flatMap (fun q => u_ws q.1 q.2.1 q.2.2) ++ [.arrayClass .int, .arrayClass .boolean, .arrayClass .long, .arrayClass .double])))))
def qNs : List Jvm.Cond := qfn.map (fun e => .fieldLinkNest (qown e.1) e.2.1 (qfw e.2.2.1 e.2.2.2).1 (qfw e.2.2.1 e.2.2.2).2.1 (qfw e.2.2.1 e.2.2.2).2.2.1 (qhost e.1 e.2.1))
set_option maxRecDepth 100000 in
set_option maxHeartbeats 4000000 in
theorem qTs_good : qTs.all goodWord = true := by decide +kernel
end
section
/-! every word that the tables need stands among the Statement's: by its place (printed by wip/whole/gen_tables.py) -/
def qsegs : List (List Jvm.Cond) := [k2_sels lw_privs, tables_1_1, tables_1_2, tables_1_3, tables_1_4, tables_1_5, tables_1_6, tables_1_7]
def qget (q : Nat × Nat) : Option Jvm.Cond := match qsegs[q.1]? with
  | some l => l[q.2]?
  | none => none
theorem qseg_in {k : Nat} {l : List Jvm.Cond} (h : qsegs[k]? = some l) {w : Jvm.Cond} (hw : w ∈ l) : w ∈ lw_tbl := by
  unfold lw_tbl tables_1
  match k, h with
  | 0, h => exact List.mem_append_left _ (by cases h; exact hw)
  | 1, h => exact List.mem_append_right _ (List.mem_append_left _ (by cases h; exact hw))
  | 2, h => exact List.mem_append_right _ (List.mem_append_right _ (List.mem_append_left _ (by cases h; exact hw)))
  | 3, h => exact List.mem_append_right _ (List.mem_append_right _ (List.mem_append_right _ (List.mem_append_left _ (by cases h; exact hw))))
  | 4, h => exact List.mem_append_right _ (List.mem_append_right _ (List.mem_append_right _ (List.mem_append_right _ (List.mem_append_left _ (by cases h; exact hw)))))
  | 5, h => exact List.mem_append_right _ (List.mem_append_right _ (List.mem_append_right _ (List.mem_append_right _ (List.mem_append_right _ (List.mem_append_left _ (by cases h; exact hw))))))
  | 6, h => exact List.mem_append_right _ (List.mem_append_right _ (List.mem_append_right _ (List.mem_append_right _ (List.mem_append_right _ (List.mem_append_right _ (List.mem_append_left _ (by cases h; exact hw)))))))
  | 7, h => exact List.mem_append_right _ (List.mem_append_right _ (List.mem_append_right _ (List.mem_append_right _ (List.mem_append_right _ (List.mem_append_right _ (List.mem_append_right _ ((by cases h; exact hw))))))))
  | k + 8, h => simp [qsegs] at h
theorem qget_in {ws : List Jvm.Cond} {ps : List (Nat × Nat)} (h : ws = ps.filterMap qget) : ∀ w ∈ ws, w ∈ lw_tbl := by
  intro w hw
  rw [h] at hw
  obtain ⟨q, -, hq⟩ := List.mem_filterMap.mp hw
  unfold qget at hq
  split at hq
  · next l hl => exact qseg_in hl (List.mem_of_getElem? hq)
  · cases hq
theorem qcut {α : Type} {L : List α} {f : α → List Jvm.Cond} {w : Jvm.Cond} {a : Nat} (b : Nat) (h : w ∈ (L.drop a).flatMap f) : w ∈ ((L.drop a).take b).flatMap f ∨ w ∈ (L.drop (a + b)).flatMap f := by
  obtain ⟨x, h1, h2⟩ := List.mem_flatMap.mp h
  rw [← List.take_append_drop b (L.drop a)] at h1
  rcases List.mem_append.mp h1 with h3 | h3
  · exact Or.inl (List.mem_flatMap.mpr ⟨x, h3, h2⟩)
  · rw [List.drop_drop] at h3
    exact Or.inr (List.mem_flatMap.mpr ⟨x, h3, h2⟩)
set_option maxRecDepth 100000 in
set_option maxHeartbeats 4000000 in
theorem qin_M_0 : ((qms.drop 0).take 20).flatMap qwM = ([(1, 37), (1, 1), (1, 45), (1, 2), (1, 65), (1, 3), (1, 71), (1, 4), (1, 104), (1, 5), (1, 117), (1, 6), (1, 172), (1, 7), (1, 222), (1, 8), (2, 22), (1, 1), (2, 26), (1, 2), (2, 30), (1, 1), (2, 34), (1, 2), (2, 38), (1, 1), (2, 42), (1, 2), (2, 46), (1, 1), (2, 50), (1, 2), (2, 59), (1, 1), (2, 63), (1, 2), (2, 67), (1, 7), (2, 71), (1, 2)] : List (Nat × Nat)).filterMap qget := rfl
set_option maxRecDepth 100000 in
set_option maxHeartbeats 4000000 in
theorem qin_M_1 : ((qms.drop 20).take 20).flatMap qwM = ([(2, 141), (1, 2), (2, 146), (1, 2), (2, 150), (1, 2), (2, 169), (1, 3), (2, 173), (1, 4), (2, 180), (1, 4), (3, 204), (1, 3), (3, 208), (1, 4), (3, 212), (1, 3), (3, 216), (1, 2), (3, 220), (1, 3), (3, 223), (1, 3), (3, 227), (1, 3), (3, 231), (1, 3), (3, 235), (1, 4), (3, 239), (1, 3), (4, 3), (1, 4), (4, 7), (1, 3), (4, 11), (1, 3), (4, 14), (1, 26)] : List (Nat × Nat)).filterMap qget := rfl
set_option maxRecDepth 100000 in
set_option maxHeartbeats 4000000 in
theorem qin_M_2 : ((qms.drop 40).take 20).flatMap qwM = ([(4, 17), (1, 26), (4, 21), (1, 26), (4, 50), (1, 26), (4, 53), (1, 26), (4, 56), (1, 26), (4, 59), (1, 26), (4, 62), (1, 26), (4, 67), (1, 5), (4, 72), (1, 5), (4, 76), (1, 3), (4, 80), (1, 3), (4, 85), (1, 3), (4, 89), (1, 5), (4, 93), (1, 5), (4, 97), (1, 5), (4, 100), (1, 5), (4, 106), (1, 7), (4, 109), (1, 7), (4, 113), (1, 7), (4, 117), (1, 3)] : List (Nat × Nat)).filterMap qget := rfl
set_option maxRecDepth 100000 in
set_option maxHeartbeats 4000000 in
theorem qin_M_3 : ((qms.drop 60).take 20).flatMap qwM = ([(4, 125), (1, 7), (4, 129), (1, 7), (4, 132), (1, 7), (4, 142), (1, 3), (4, 145), (1, 7), (4, 150), (1, 3), (4, 153), (1, 26), (4, 157), (1, 7), (4, 162), (1, 3), (4, 166), (1, 6), (4, 172), (1, 3), (4, 176), (1, 6), (4, 182), (1, 3), (4, 190), (1, 2), (4, 204), (1, 6), (4, 211), (1, 6), (4, 215), (1, 2), (4, 220), (1, 6), (4, 224), (1, 3), (4, 228), (1, 6)] : List (Nat × Nat)).filterMap qget := rfl
set_option maxRecDepth 100000 in
set_option maxHeartbeats 4000000 in
theorem qin_M_4 : ((qms.drop 80).take 20).flatMap qwM = ([(4, 232), (1, 6), (4, 236), (1, 6), (5, 2), (1, 6), (5, 6), (1, 6), (5, 10), (1, 6), (5, 14), (1, 7), (5, 18), (1, 7), (5, 22), (1, 7), (5, 25), (1, 7), (5, 29), (1, 7), (5, 38), (1, 26), (5, 43), (1, 6), (5, 49), (1, 2), (5, 55), (1, 5), (5, 63), (1, 1), (5, 67), (1, 1), (5, 86), (1, 3), (5, 95), (1, 1), (5, 101), (1, 3), (5, 106), (1, 31)] : List (Nat × Nat)).filterMap qget := rfl
set_option maxRecDepth 100000 in
set_option maxHeartbeats 4000000 in
theorem qin_M_5 : ((qms.drop 100).take 20).flatMap qwM = ([(5, 109), (1, 31), (5, 128), (1, 31), (5, 132), (1, 31), (5, 142), (1, 1), (5, 146), (1, 3), (5, 154), (1, 1), (5, 158), (1, 8), (5, 163), (1, 8), (5, 171), (1, 8), (5, 175), (1, 8), (5, 179), (1, 8), (5, 183), (1, 8), (5, 196), (1, 8), (5, 203), (1, 8), (5, 208), (1, 8), (5, 212), (1, 8), (5, 217), (1, 8), (5, 224), (1, 1), (5, 228), (1, 3), (5, 236), (1, 1)] : List (Nat × Nat)).filterMap qget := rfl
set_option maxRecDepth 100000 in
set_option maxHeartbeats 4000000 in
theorem qin_M_6 : ((qms.drop 120).take 20).flatMap qwM = ([(6, 3), (1, 1), (6, 6), (1, 1), (6, 11), (1, 9), (6, 108), (1, 9), (6, 112), (1, 9), (6, 115), (1, 9), (6, 119), (1, 9), (6, 123), (1, 9), (6, 127), (1, 9), (6, 131), (1, 9), (6, 135), (1, 9), (6, 139), (1, 9), (6, 143), (1, 9), (6, 147), (1, 9), (6, 151), (1, 9), (6, 157), (1, 9), (6, 161), (1, 9), (6, 164), (1, 9), (6, 168), (1, 9), (6, 172), (1, 9)] : List (Nat × Nat)).filterMap qget := rfl
set_option maxRecDepth 100000 in
set_option maxHeartbeats 4000000 in
theorem qin_M_7 : ((qms.drop 140).take 20).flatMap qwM = ([(6, 176), (1, 9), (6, 180), (1, 9), (6, 184), (1, 9), (6, 188), (1, 9), (6, 192), (1, 9), (6, 196), (1, 9), (6, 200), (1, 9), (6, 204), (1, 9), (6, 208), (1, 9), (6, 211), (1, 9), (6, 215), (1, 9), (6, 219), (1, 9), (6, 223), (1, 9), (6, 227), (1, 9), (6, 231), (1, 9), (6, 235), (1, 9), (6, 239), (1, 9), (7, 3), (1, 9), (7, 7), (1, 9), (7, 11), (1, 9)] : List (Nat × Nat)).filterMap qget := rfl
set_option maxRecDepth 100000 in
set_option maxHeartbeats 4000000 in
theorem qin_M_8 : ((qms.drop 160).take 20).flatMap qwM = ([(7, 15), (1, 9), (7, 19), (1, 9), (7, 23), (1, 9), (7, 26), (1, 9), (7, 30), (1, 9), (7, 34), (1, 9), (7, 38), (1, 9), (7, 42), (1, 9), (7, 46), (1, 9), (7, 50), (1, 9), (7, 54), (1, 9), (7, 58), (1, 9), (7, 62), (1, 9), (7, 66), (1, 9), (7, 70), (1, 9), (7, 74), (1, 9), (7, 78), (1, 9), (7, 82), (1, 9), (7, 86), (1, 9), (7, 90), (1, 9)] : List (Nat × Nat)).filterMap qget := rfl
set_option maxRecDepth 100000 in
set_option maxHeartbeats 4000000 in
theorem qin_M_9 : ((qms.drop 180).take 20).flatMap qwM = ([(7, 96), (1, 9), (7, 104), (1, 9), (7, 108), (1, 9), (7, 112), (1, 9), (7, 116), (1, 9), (7, 120), (1, 9), (7, 124), (1, 9), (7, 128), (1, 9), (7, 132), (1, 9), (7, 136), (1, 9), (7, 140), (1, 9), (7, 144), (1, 9), (7, 148), (1, 9), (7, 152), (1, 9), (7, 156), (1, 9), (2, 53), (1, 0), (5, 58), (1, 0), (5, 90), (1, 0), (5, 138), (1, 0), (5, 150), (1, 0)] : List (Nat × Nat)).filterMap qget := rfl
set_option maxRecDepth 100000 in
set_option maxHeartbeats 4000000 in
theorem qin_M_10 : ((qms.drop 200).take 13).flatMap qwM = ([(5, 220), (1, 0), (5, 232), (1, 0), (5, 239), (1, 0), (2, 183), (1, 15), (2, 186), (1, 15), (4, 135), (1, 25), (3, 61), (1, 18), (3, 65), (1, 18), (4, 26), (1, 18), (4, 30), (1, 18), (4, 33), (1, 24), (4, 36), (1, 18), (4, 39), (1, 23)] : List (Nat × Nat)).filterMap qget := rfl
set_option maxRecDepth 100000 in
theorem qin_M : ∀ w ∈ qms.flatMap qwM, w ∈ lw_tbl := by
  intro w hw
  have hw : w ∈ (qms.drop 0).flatMap qwM := hw
  rcases qcut 20 hw with hw | hw
  · exact qget_in qin_M_0 w hw
  rcases qcut 20 hw with hw | hw
  · exact qget_in qin_M_1 w hw
  rcases qcut 20 hw with hw | hw
  · exact qget_in qin_M_2 w hw
  rcases qcut 20 hw with hw | hw
  · exact qget_in qin_M_3 w hw
  rcases qcut 20 hw with hw | hw
  · exact qget_in qin_M_4 w hw
  rcases qcut 20 hw with hw | hw
  · exact qget_in qin_M_5 w hw
  rcases qcut 20 hw with hw | hw
  · exact qget_in qin_M_6 w hw
  rcases qcut 20 hw with hw | hw
  · exact qget_in qin_M_7 w hw
  rcases qcut 20 hw with hw | hw
  · exact qget_in qin_M_8 w hw
  rcases qcut 20 hw with hw | hw
  · exact qget_in qin_M_9 w hw
  rcases qcut 13 hw with hw | hw
  · exact qget_in qin_M_10 w hw
  have e : qms.drop 213 = [] := rfl
  have hw : w ∈ (qms.drop 213).flatMap qwM := hw
  rw [e] at hw
  cases hw
set_option maxRecDepth 100000 in
set_option maxHeartbeats 4000000 in
theorem qin_L_0 : ((qml.drop 0).take 16).flatMap qwL = ([(1, 35), (1, 36), (1, 38), (1, 39), (1, 40), (1, 43), (1, 44), (1, 46), (1, 39), (1, 40), (1, 63), (1, 64), (1, 66), (1, 39), (1, 40), (1, 69), (1, 70), (1, 72), (1, 39), (1, 40), (1, 102), (1, 103), (1, 105), (1, 39), (1, 40), (1, 115), (1, 116), (1, 118), (1, 39), (1, 40), (1, 120), (1, 70), (1, 170), (1, 171), (1, 173), (1, 39), (1, 40), (1, 175), (1, 70)] : List (Nat × Nat)).filterMap qget := rfl
set_option maxRecDepth 100000 in
set_option maxHeartbeats 4000000 in
theorem qin_L_1 : ((qml.drop 16).take 14).flatMap qwL = ([(1, 220), (1, 221), (1, 223), (1, 39), (1, 40), (2, 19), (2, 20), (2, 21), (2, 23), (2, 24), (2, 25), (2, 27), (2, 28), (2, 29), (2, 31), (2, 32), (2, 33), (2, 35), (2, 36), (2, 37), (2, 39), (2, 40), (2, 41), (2, 43), (2, 44), (2, 45), (2, 47), (2, 48), (2, 49), (2, 51), (2, 52), (2, 56), (2, 57), (2, 58), (2, 60), (2, 61), (2, 62), (2, 64), (2, 65), (2, 66)] : List (Nat × Nat)).filterMap qget := rfl
set_option maxRecDepth 100000 in
set_option maxHeartbeats 4000000 in
theorem qin_L_2 : ((qml.drop 30).take 14).flatMap qwL = ([(2, 68), (2, 69), (2, 70), (2, 138), (2, 139), (2, 140), (2, 143), (2, 144), (2, 145), (2, 147), (2, 148), (2, 149), (2, 166), (2, 167), (2, 168), (2, 170), (2, 171), (2, 172), (2, 174), (2, 69), (2, 70), (2, 175), (2, 144), (2, 145), (2, 176), (2, 139), (2, 140), (2, 177), (2, 178), (2, 179), (2, 181), (2, 182), (2, 184), (2, 185), (3, 62), (3, 63), (3, 64), (3, 201), (3, 203), (0, 1)] : List (Nat × Nat)).filterMap qget := rfl
set_option maxRecDepth 100000 in
set_option maxHeartbeats 4000000 in
theorem qin_L_3 : ((qml.drop 44).take 14).flatMap qwL = ([(3, 205), (3, 206), (3, 207), (3, 209), (3, 211), (0, 2), (3, 213), (3, 214), (3, 215), (3, 217), (3, 219), (0, 3), (3, 221), (3, 222), (3, 224), (3, 226), (0, 4), (3, 228), (3, 229), (3, 230), (3, 232), (3, 233), (3, 234), (3, 236), (3, 237), (3, 238), (4, 0), (4, 1), (4, 2), (4, 4), (4, 5), (4, 6), (4, 8), (4, 9), (4, 10), (4, 12), (4, 13), (4, 15), (4, 16)] : List (Nat × Nat)).filterMap qget := rfl
set_option maxRecDepth 100000 in
set_option maxHeartbeats 4000000 in
theorem qin_L_4 : ((qml.drop 58).take 16).flatMap qwL = ([(4, 19), (4, 20), (4, 22), (3, 59), (3, 60), (4, 23), (4, 24), (4, 25), (4, 27), (4, 28), (4, 29), (4, 31), (4, 32), (4, 34), (4, 35), (4, 37), (4, 38), (4, 48), (4, 49), (4, 51), (4, 52), (4, 54), (4, 55), (4, 57), (4, 58), (4, 60), (4, 61), (4, 64), (4, 65), (4, 66), (4, 68), (3, 233), (3, 234), (4, 69), (4, 71), (0, 5), (4, 73), (4, 74), (4, 75)] : List (Nat × Nat)).filterMap qget := rfl
set_option maxRecDepth 100000 in
set_option maxHeartbeats 4000000 in
theorem qin_L_5 : ((qml.drop 74).take 14).flatMap qwL = ([(4, 77), (4, 78), (4, 79), (4, 81), (3, 237), (3, 238), (4, 82), (4, 83), (4, 84), (4, 86), (4, 88), (0, 6), (4, 90), (4, 92), (0, 7), (4, 94), (4, 96), (0, 8), (4, 98), (4, 99), (4, 101), (4, 1), (4, 2), (4, 102), (2, 139), (2, 140), (4, 103), (4, 104), (4, 105), (4, 107), (4, 108), (4, 110), (4, 112), (0, 9), (4, 114), (4, 115), (4, 116), (4, 118), (4, 74), (4, 75)] : List (Nat × Nat)).filterMap qget := rfl
set_option maxRecDepth 100000 in
set_option maxHeartbeats 4000000 in
theorem qin_L_6 : ((qml.drop 88).take 14).flatMap qwL = ([(4, 119), (4, 83), (4, 84), (4, 120), (2, 171), (2, 172), (4, 121), (2, 178), (2, 179), (4, 122), (4, 123), (4, 124), (4, 126), (4, 128), (0, 10), (4, 130), (4, 131), (4, 133), (4, 134), (4, 139), (4, 140), (4, 141), (4, 143), (4, 144), (4, 146), (3, 206), (3, 207), (4, 147), (4, 148), (4, 149), (4, 151), (4, 152), (4, 154), (4, 156), (0, 11), (4, 158), (4, 1), (4, 2)] : List (Nat × Nat)).filterMap qget := rfl
set_option maxRecDepth 100000 in
set_option maxHeartbeats 4000000 in
theorem qin_L_7 : ((qml.drop 102).take 13).flatMap qwL = ([(4, 159), (4, 160), (4, 161), (4, 163), (4, 164), (4, 165), (4, 167), (2, 69), (2, 70), (4, 168), (2, 144), (2, 145), (4, 169), (4, 170), (4, 171), (4, 173), (4, 175), (0, 12), (4, 179), (4, 180), (4, 181), (4, 183), (4, 20), (4, 186), (2, 139), (2, 140), (4, 187), (4, 188), (4, 189), (4, 191), (2, 69), (2, 70), (4, 192), (3, 214), (3, 215), (4, 201), (4, 203), (0, 13)] : List (Nat × Nat)).filterMap qget := rfl
set_option maxRecDepth 100000 in
set_option maxHeartbeats 4000000 in
theorem qin_L_8 : ((qml.drop 115).take 13).flatMap qwL = ([(4, 206), (4, 74), (4, 75), (4, 207), (4, 148), (4, 149), (4, 208), (4, 210), (0, 14), (4, 212), (4, 213), (4, 214), (4, 217), (4, 219), (0, 15), (4, 221), (4, 222), (4, 223), (4, 225), (4, 227), (0, 16), (4, 229), (4, 231), (0, 17), (4, 233), (4, 235), (0, 18), (4, 237), (2, 178), (2, 179), (4, 238), (3, 206), (3, 207), (4, 239), (5, 1), (0, 19), (5, 3), (5, 5), (0, 20)] : List (Nat × Nat)).filterMap qget := rfl
set_option maxRecDepth 100000 in
set_option maxHeartbeats 4000000 in
theorem qin_L_9 : ((qml.drop 128).take 14).flatMap qwL = ([(5, 7), (3, 237), (3, 238), (5, 8), (5, 9), (5, 11), (5, 13), (0, 21), (5, 15), (5, 16), (5, 17), (5, 19), (5, 21), (0, 22), (5, 23), (5, 24), (5, 26), (5, 28), (0, 23), (5, 30), (4, 83), (4, 84), (5, 32), (4, 180), (4, 181), (5, 33), (4, 74), (4, 75), (5, 34), (4, 5), (4, 6), (5, 35), (4, 9), (4, 10), (5, 36), (5, 37), (5, 39), (4, 152)] : List (Nat × Nat)).filterMap qget := rfl
set_option maxRecDepth 100000 in
set_option maxHeartbeats 4000000 in
theorem qin_L_10 : ((qml.drop 142).take 14).flatMap qwL = ([(5, 40), (5, 41), (5, 42), (5, 44), (2, 171), (2, 172), (5, 45), (4, 164), (4, 165), (5, 46), (5, 47), (5, 48), (5, 50), (2, 139), (2, 140), (5, 51), (3, 233), (3, 234), (5, 52), (5, 53), (5, 54), (5, 56), (5, 57), (5, 60), (5, 61), (5, 62), (5, 64), (5, 66), (0, 24), (5, 83), (5, 84), (5, 85), (5, 87), (4, 1), (4, 2), (5, 88), (5, 89), (5, 92), (5, 93), (5, 94)] : List (Nat × Nat)).filterMap qget := rfl
set_option maxRecDepth 100000 in
set_option maxHeartbeats 4000000 in
theorem qin_L_11 : ((qml.drop 156).take 15).flatMap qwL = ([(5, 96), (3, 237), (3, 238), (5, 97), (4, 74), (4, 75), (5, 98), (5, 99), (5, 100), (5, 102), (4, 78), (4, 79), (5, 104), (5, 105), (5, 107), (5, 108), (5, 126), (5, 127), (5, 130), (5, 131), (5, 136), (5, 137), (5, 139), (5, 140), (5, 141), (5, 143), (5, 144), (5, 145), (5, 147), (4, 148), (4, 149), (5, 148), (5, 149), (5, 151), (5, 152), (5, 153), (5, 155), (5, 156), (5, 157)] : List (Nat × Nat)).filterMap qget := rfl
set_option maxRecDepth 100000 in
set_option maxHeartbeats 4000000 in
theorem qin_L_12 : ((qml.drop 171).take 14).flatMap qwL = ([(5, 159), (3, 237), (3, 238), (5, 160), (5, 162), (0, 25), (5, 164), (4, 74), (4, 75), (5, 165), (4, 83), (4, 84), (5, 166), (4, 5), (4, 6), (5, 167), (4, 9), (4, 10), (5, 168), (5, 170), (0, 26), (5, 172), (5, 174), (0, 27), (5, 176), (5, 178), (0, 28), (5, 180), (4, 52), (5, 181), (5, 182), (5, 193), (5, 195), (0, 29), (5, 197), (3, 59), (3, 60), (5, 198), (4, 24), (4, 25)] : List (Nat × Nat)).filterMap qget := rfl
set_option maxRecDepth 100000 in
set_option maxHeartbeats 4000000 in
theorem qin_L_13 : ((qml.drop 185).take 15).flatMap qwL = ([(5, 200), (5, 202), (0, 30), (5, 204), (4, 61), (5, 205), (5, 207), (0, 31), (5, 209), (5, 211), (0, 32), (5, 213), (4, 78), (4, 79), (5, 214), (5, 216), (0, 33), (5, 218), (5, 219), (5, 221), (5, 222), (5, 223), (5, 225), (5, 226), (5, 227), (5, 229), (5, 84), (5, 85), (5, 230), (5, 231), (5, 233), (5, 234), (5, 235), (5, 237), (5, 238), (6, 0), (6, 1), (6, 2), (6, 4), (6, 5)] : List (Nat × Nat)).filterMap qget := rfl
set_option maxRecDepth 100000 in
set_option maxHeartbeats 4000000 in
theorem qin_L_14 : ((qml.drop 200).take 14).flatMap qwL = ([(6, 9), (6, 10), (6, 12), (1, 39), (1, 40), (6, 105), (6, 106), (6, 107), (6, 109), (6, 110), (6, 111), (6, 113), (6, 114), (6, 116), (6, 117), (6, 118), (6, 120), (6, 121), (6, 122), (6, 124), (6, 125), (6, 126), (6, 128), (6, 130), (0, 34), (6, 132), (6, 134), (0, 35), (6, 136), (6, 138), (0, 36), (6, 140), (6, 142), (0, 37), (6, 144), (6, 146), (0, 38), (6, 148), (6, 150), (0, 39)] : List (Nat × Nat)).filterMap qget := rfl
set_option maxRecDepth 100000 in
set_option maxHeartbeats 4000000 in
theorem qin_L_15 : ((qml.drop 214).take 13).flatMap qwL = ([(6, 154), (6, 156), (0, 40), (6, 158), (6, 160), (0, 41), (6, 162), (6, 163), (6, 165), (6, 167), (0, 42), (6, 169), (6, 171), (0, 43), (6, 173), (6, 175), (0, 44), (6, 177), (6, 179), (0, 45), (6, 181), (6, 183), (0, 46), (6, 185), (6, 187), (0, 47), (6, 189), (6, 191), (0, 48), (6, 193), (6, 195), (0, 49), (6, 197), (6, 199), (0, 50), (6, 201), (6, 203), (0, 51)] : List (Nat × Nat)).filterMap qget := rfl
set_option maxRecDepth 100000 in
set_option maxHeartbeats 4000000 in
theorem qin_L_16 : ((qml.drop 227).take 13).flatMap qwL = ([(6, 205), (6, 207), (0, 52), (6, 209), (6, 210), (6, 212), (6, 214), (0, 53), (6, 216), (6, 218), (0, 54), (6, 220), (6, 222), (0, 55), (6, 224), (6, 226), (0, 56), (6, 228), (6, 230), (0, 57), (6, 232), (6, 234), (0, 58), (6, 236), (6, 238), (0, 59), (7, 0), (7, 2), (0, 60), (7, 4), (7, 6), (0, 61), (7, 8), (7, 10), (0, 62), (7, 12), (7, 14), (0, 63)] : List (Nat × Nat)).filterMap qget := rfl
set_option maxRecDepth 100000 in
set_option maxHeartbeats 4000000 in
theorem qin_L_17 : ((qml.drop 240).take 13).flatMap qwL = ([(7, 16), (7, 18), (0, 64), (7, 20), (7, 22), (0, 65), (7, 24), (7, 25), (7, 27), (7, 29), (0, 66), (7, 31), (7, 33), (0, 67), (7, 35), (7, 37), (0, 68), (7, 39), (7, 41), (0, 69), (7, 43), (7, 45), (0, 70), (7, 47), (7, 49), (0, 71), (7, 51), (7, 53), (0, 72), (7, 55), (7, 57), (0, 73), (7, 59), (7, 61), (0, 74), (7, 63), (7, 65), (0, 75)] : List (Nat × Nat)).filterMap qget := rfl
set_option maxRecDepth 100000 in
set_option maxHeartbeats 4000000 in
theorem qin_L_18 : ((qml.drop 253).take 13).flatMap qwL = ([(7, 67), (7, 69), (0, 76), (7, 71), (7, 72), (7, 73), (7, 75), (7, 76), (7, 77), (7, 79), (7, 81), (0, 77), (7, 83), (7, 85), (0, 78), (7, 87), (7, 88), (7, 89), (7, 94), (7, 95), (7, 101), (7, 102), (7, 103), (7, 105), (7, 106), (7, 107), (7, 109), (7, 111), (0, 79), (7, 113), (7, 115), (0, 80), (7, 117), (7, 119), (0, 81), (7, 121), (7, 123), (0, 82)] : List (Nat × Nat)).filterMap qget := rfl
set_option maxRecDepth 100000 in
set_option maxHeartbeats 4000000 in
theorem qin_L_19 : ((qml.drop 266).take 8).flatMap qwL = ([(7, 125), (7, 127), (0, 83), (7, 129), (7, 131), (0, 84), (7, 133), (7, 135), (0, 85), (7, 137), (7, 139), (0, 86), (7, 141), (7, 142), (7, 143), (7, 145), (7, 146), (7, 147), (7, 149), (7, 151), (0, 87), (7, 153), (7, 154), (7, 155)] : List (Nat × Nat)).filterMap qget := rfl
set_option maxRecDepth 100000 in
theorem qin_L : ∀ w ∈ qml.flatMap qwL, w ∈ lw_tbl := by
  intro w hw
  have hw : w ∈ (qml.drop 0).flatMap qwL := hw
  rcases qcut 16 hw with hw | hw
  · exact qget_in qin_L_0 w hw
  rcases qcut 14 hw with hw | hw
  · exact qget_in qin_L_1 w hw
  rcases qcut 14 hw with hw | hw
  · exact qget_in qin_L_2 w hw
  rcases qcut 14 hw with hw | hw
  · exact qget_in qin_L_3 w hw
  rcases qcut 16 hw with hw | hw
  · exact qget_in qin_L_4 w hw
  rcases qcut 14 hw with hw | hw
  · exact qget_in qin_L_5 w hw
  rcases qcut 14 hw with hw | hw
  · exact qget_in qin_L_6 w hw
  rcases qcut 13 hw with hw | hw
  · exact qget_in qin_L_7 w hw
  rcases qcut 13 hw with hw | hw
  · exact qget_in qin_L_8 w hw
  rcases qcut 14 hw with hw | hw
  · exact qget_in qin_L_9 w hw
  rcases qcut 14 hw with hw | hw
  · exact qget_in qin_L_10 w hw
  rcases qcut 15 hw with hw | hw
  · exact qget_in qin_L_11 w hw
  rcases qcut 14 hw with hw | hw
  · exact qget_in qin_L_12 w hw
  rcases qcut 15 hw with hw | hw
  · exact qget_in qin_L_13 w hw
  rcases qcut 14 hw with hw | hw
  · exact qget_in qin_L_14 w hw
  rcases qcut 13 hw with hw | hw
  · exact qget_in qin_L_15 w hw
  rcases qcut 13 hw with hw | hw
  · exact qget_in qin_L_16 w hw
  rcases qcut 13 hw with hw | hw
  · exact qget_in qin_L_17 w hw
  rcases qcut 13 hw with hw | hw
  · exact qget_in qin_L_18 w hw
  rcases qcut 8 hw with hw | hw
  · exact qget_in qin_L_19 w hw
  have e : qml.drop 274 = [] := rfl
  have hw : w ∈ (qml.drop 274).flatMap qwL := hw
  rw [e] at hw
  cases hw
set_option maxRecDepth 100000 in
set_option maxHeartbeats 4000000 in
theorem qin_F_0 : ((qfl.drop 0).take 40).flatMap qwF = ([(1, 47), (1, 48), (1, 49), (1, 50), (1, 73), (1, 74), (1, 75), (1, 83), (1, 84), (1, 87), (1, 90), (1, 106), (1, 107), (1, 121), (1, 122), (1, 123), (1, 125), (1, 127), (1, 129), (1, 131), (1, 133), (1, 135), (1, 137), (1, 139), (1, 141), (1, 176), (1, 177), (1, 178), (1, 179), (1, 181), (1, 183), (1, 185), (1, 187), (1, 189), (1, 191), (1, 193), (1, 224), (1, 225), (1, 226), (1, 227)] : List (Nat × Nat)).filterMap qget := rfl
set_option maxRecDepth 100000 in
set_option maxHeartbeats 4000000 in
theorem qin_F_1 : ((qfl.drop 40).take 37).flatMap qwF = ([(1, 237), (1, 238), (1, 239), (2, 0), (2, 1), (2, 2), (2, 3), (6, 13), (6, 14), (6, 15), (6, 16), (6, 17), (6, 18), (6, 19), (6, 20), (6, 21), (6, 22), (6, 23), (6, 24), (6, 25), (6, 26), (6, 27), (6, 28), (6, 29), (6, 30), (6, 31), (6, 32), (6, 33), (6, 34), (6, 35), (6, 36), (6, 37), (6, 38), (6, 39), (6, 40), (6, 41), (6, 42)] : List (Nat × Nat)).filterMap qget := rfl
set_option maxRecDepth 100000 in
theorem qin_F : ∀ w ∈ qfl.flatMap qwF, w ∈ lw_tbl := by
  intro w hw
  have hw : w ∈ (qfl.drop 0).flatMap qwF := hw
  rcases qcut 40 hw with hw | hw
  · exact qget_in qin_F_0 w hw
  rcases qcut 37 hw with hw | hw
  · exact qget_in qin_F_1 w hw
  have e : qfl.drop 77 = [] := rfl
  have hw : w ∈ (qfl.drop 77).flatMap qwF := hw
  rw [e] at hw
  cases hw
set_option maxRecDepth 100000 in
set_option maxHeartbeats 4000000 in
theorem qin_N_0 : ((qnl.drop 0).take 11).flatMap qwN = ([(1, 33), (1, 34), (1, 1), (1, 41), (1, 42), (1, 2), (1, 61), (1, 62), (1, 3), (1, 67), (1, 68), (1, 4), (1, 100), (1, 101), (1, 5), (1, 113), (1, 114), (1, 6), (1, 119), (1, 68), (1, 4), (1, 168), (1, 169), (1, 7), (1, 174), (1, 68), (1, 4), (1, 218), (1, 219), (1, 8), (6, 7), (6, 8), (1, 9)] : List (Nat × Nat)).filterMap qget := rfl
set_option maxRecDepth 100000 in
theorem qin_N : ∀ w ∈ qnl.flatMap qwN, w ∈ lw_tbl := by
  intro w hw
  have hw : w ∈ (qnl.drop 0).flatMap qwN := hw
  rcases qcut 11 hw with hw | hw
  · exact qget_in qin_N_0 w hw
  have e : qnl.drop 11 = [] := rfl
  have hw : w ∈ (qnl.drop 11).flatMap qwN := hw
  rw [e] at hw
  cases hw
set_option maxRecDepth 100000 in
set_option maxHeartbeats 4000000 in
theorem qin_K_0 : ((qkl.drop 0).take 22).flatMap qwK = ([(2, 137), (2, 142), (4, 136), (4, 137), (4, 138), (4, 216), (5, 125), (6, 152), (6, 153), (7, 92), (7, 93), (5, 103), (5, 129), (5, 133), (5, 134), (7, 98), (7, 99), (7, 100), (7, 157), (5, 135), (7, 91), (7, 97)] : List (Nat × Nat)).filterMap qget := rfl
set_option maxRecDepth 100000 in
theorem qin_K : ∀ w ∈ qkl.flatMap qwK, w ∈ lw_tbl := by
  intro w hw
  have hw : w ∈ (qkl.drop 0).flatMap qwK := hw
  rcases qcut 22 hw with hw | hw
  · exact qget_in qin_K_0 w hw
  have e : qkl.drop 22 = [] := rfl
  have hw : w ∈ (qkl.drop 22).flatMap qwK := hw
  rw [e] at hw
  cases hw
set_option maxRecDepth 100000 in
set_option maxHeartbeats 4000000 in
theorem qin_C_0 : ((qcl.drop 0).take 6).flatMap (fun q => u_ws q.1 q.2.1 q.2.2) = ([(2, 4), (2, 6), (2, 8), (2, 10), (2, 12), (2, 14), (2, 16), (1, 51), (1, 53), (1, 55), (1, 57), (1, 91), (1, 93), (1, 95), (1, 97), (1, 76), (1, 78), (1, 80), (1, 108), (1, 110), (1, 143), (1, 145), (1, 147), (1, 149), (1, 151), (1, 153), (1, 155), (1, 157), (1, 159), (1, 161), (1, 163), (1, 165)] : List (Nat × Nat)).filterMap qget := rfl
set_option maxRecDepth 100000 in
set_option maxHeartbeats 4000000 in
theorem qin_C_1 : ((qcl.drop 6).take 2).flatMap (fun q => u_ws q.1 q.2.1 q.2.2) = ([(1, 195), (1, 197), (1, 199), (1, 201), (1, 203), (1, 205), (1, 207), (1, 209), (1, 211), (1, 213), (1, 215), (1, 228), (1, 230), (1, 232), (1, 234)] : List (Nat × Nat)).filterMap qget := rfl
set_option maxRecDepth 100000 in
set_option maxHeartbeats 4000000 in
theorem qin_C_2 : ((qcl.drop 8).take 1).flatMap (fun q => u_ws q.1 q.2.1 q.2.2) = ([(6, 43), (6, 45), (6, 47), (6, 49), (6, 51), (6, 53), (6, 55), (6, 57), (6, 59), (6, 61), (6, 63), (6, 65), (6, 67), (6, 69), (6, 71), (6, 73), (6, 75), (6, 77), (6, 79), (6, 81), (6, 83), (6, 85), (6, 87), (6, 89), (6, 91), (6, 93), (6, 95), (6, 97), (6, 99), (6, 101)] : List (Nat × Nat)).filterMap qget := rfl
set_option maxRecDepth 100000 in
theorem qin_C : ∀ w ∈ qcl.flatMap (fun q => u_ws q.1 q.2.1 q.2.2), w ∈ lw_tbl := by
  intro w hw
  have hw : w ∈ (qcl.drop 0).flatMap (fun q => u_ws q.1 q.2.1 q.2.2) := hw
  rcases qcut 6 hw with hw | hw
  · exact qget_in qin_C_0 w hw
  rcases qcut 2 hw with hw | hw
  · exact qget_in qin_C_1 w hw
  rcases qcut 1 hw with hw | hw
  · exact qget_in qin_C_2 w hw
  have e : qcl.drop 9 = [] := rfl
  have hw : w ∈ (qcl.drop 9).flatMap (fun q => u_ws q.1 q.2.1 q.2.2) := hw
  rw [e] at hw
  cases hw
theorem qin_A : ([.arrayClass .int, .arrayClass .boolean, .arrayClass .long, .arrayClass .double] : List Jvm.Cond) = ([(1, 60), (6, 104), (7, 158), (7, 159)] : List (Nat × Nat)).filterMap qget := rfl
theorem qNs_eq : qNs = ([(1, 85), (1, 86), (1, 88), (1, 89), (1, 124), (1, 126), (1, 128), (1, 130), (1, 132), (1, 134), (1, 136), (1, 138), (1, 140), (1, 142), (1, 180), (1, 182), (1, 184), (1, 186), (1, 188), (1, 190), (1, 192), (1, 194)] : List (Nat × Nat)).filterMap qget := rfl
theorem qNs_in : ∀ w ∈ qNs, w ∈ lw_tbl := qget_in qNs_eq
theorem qTs_in : ∀ w ∈ qTs, w ∈ lw_tbl := by
  intro w hw
  unfold qTs at hw
  rcases List.mem_append.mp hw with h | h
  · exact qin_M w h
  rcases List.mem_append.mp h with h | h
  · exact qin_L w h
  rcases List.mem_append.mp h with h | h
  · exact qin_F w h
  rcases List.mem_append.mp h with h | h
  · exact qin_N w h
  rcases List.mem_append.mp h with h | h
  · exact qin_K w h
  rcases List.mem_append.mp h with h | h
  · exact qin_C w h
  · exact qget_in qin_A w h
end
section
/-! the tables bear the words -/
abbrev qExt : Type := Nat → Instr → List Value → Option (List Value)
def qT (x : qExt) (sk : Nat → Option Nat) : zTb := (fun k => qcn[k]?, qcl, qty, qfind (qfl ++ qfn), qfind qnl, qfind qkl, qfind qml, qfind qxl, fun mi => qms[mi]?, sk, x)
def qckC : Bool := (List.range qcl.length).all fun ci => match qcl[ci]? with
  | some q => (List.range q.2.2).all (fun k => decide (parseFieldDescriptor (q.2.1 k).2.2.1 = some (qty ci k))) && (List.range q.2.2).all (fun a => (List.range q.2.2).all (fun b => a == b || !((q.2.1 a).2.1 == (q.2.1 b).2.1)))
  | none => false
set_option maxRecDepth 100000 in
set_option maxHeartbeats 4000000 in
theorem qckC_ok : qckC = true := by decide +kernel
def qckF (e : Nat × Nat × Nat × Nat) : Bool := match qcl[e.2.2.1]? with
  | some q => decide (e.2.2.2 < q.2.2) && (!((q.2.1 e.2.2.2).2.2.2) || (q.2.1 e.2.2.2).1 == qown e.1)
  | none => false
def qckN (e : Nat × Nat × Nat × Nat) : Bool := match qcl[e.2.2.1]? with
  | some q => decide (e.2.2.2 < q.2.2) && !(e.2.2.1 == e.1)
  | none => false
set_option maxRecDepth 100000 in
theorem qckF_ok : qfl.all qckF = true := by decide +kernel
set_option maxRecDepth 100000 in
theorem qckN_ok : qfn.all qckN = true := by decide +kernel
def qckK (e : Nat × Nat × Nat) : Bool := (qcl[e.2.2]?).isSome
theorem qckK_ok : qnl.all qckK = true := by decide +kernel
def qckV (e : Nat × Nat × Value) : Bool := match e.2.2 with
  | .int _ => true
  | .long _ => true
  | .double _ => true
  | _ => false
theorem qckV_ok : qkl.all qckV = true := by decide +kernel
def qckM (M : zM) : Bool := decide (qcn[M.1]? = some M.2.1.cls) && plainName M.2.1.cls && !(M.2.1.cls == "java/lang/invoke/MethodHandle") && !(M.2.1.cls == "java/lang/invoke/VarHandle") && decide (M.2.2.2.1 ≤ 60) && (!M.2.2.2.2.2.1 || M.2.1.name == "<init>")
set_option maxRecDepth 100000 in
set_option maxHeartbeats 4000000 in
theorem qckM_ok : qms.all qckM = true := by decide +kernel
def qckL (e : Nat × Nat × Nat × Nat × Nat) : Bool := match e with
  | (_, _, mi, kind, n) => kind == 3 || (match qms[mi]? with
    | some M => decide ((parseMethodDescriptor M.2.1.desc).map (fun d => d.parameters.length) = some n) && (!(kind == 1) || (match qcl[M.1]? with | some q => q.1 == M.2.1.cls | none => true)) && (!(kind == 2) || (M.2.1.name == "<init>" && M.2.2.2.2.1.isNone && M.2.2.2.2.2.2.isEmpty))
    | none => false)
set_option maxRecDepth 100000 in
set_option maxHeartbeats 4000000 in
theorem qckL_ok : qml.all qckL = true := by decide +kernel
theorem qTs_M {w : Jvm.Cond} (h : w ∈ qms.flatMap qwM) : w ∈ qTs := List.mem_append_left _ h
theorem qTs_L {w : Jvm.Cond} (h : w ∈ qml.flatMap qwL) : w ∈ qTs := List.mem_append_right _ (List.mem_append_left _ h)
theorem qTs_F {w : Jvm.Cond} (h : w ∈ qfl.flatMap qwF) : w ∈ qTs := List.mem_append_right _ (List.mem_append_right _ (List.mem_append_left _ h))
theorem qTs_N {w : Jvm.Cond} (h : w ∈ qnl.flatMap qwN) : w ∈ qTs := List.mem_append_right _ (List.mem_append_right _ (List.mem_append_right _ (List.mem_append_left _ h)))
theorem qTs_K {w : Jvm.Cond} (h : w ∈ qkl.flatMap qwK) : w ∈ qTs := List.mem_append_right _ (List.mem_append_right _ (List.mem_append_right _ (List.mem_append_right _ (List.mem_append_left _ h))))
theorem qTs_C {w : Jvm.Cond} (h : w ∈ qcl.flatMap (fun q => u_ws q.1 q.2.1 q.2.2)) : w ∈ qTs := List.mem_append_right _ (List.mem_append_right _ (List.mem_append_right _ (List.mem_append_right _ (List.mem_append_right _ (List.mem_append_left _ h)))))
theorem qTs_A {w : Jvm.Cond} (h : w ∈ ([.arrayClass .int, .arrayClass .boolean, .arrayClass .long, .arrayClass .double] : List Jvm.Cond)) : w ∈ qTs := List.mem_append_right _ (List.mem_append_right _ (List.mem_append_right _ (List.mem_append_right _ (List.mem_append_right _ (List.mem_append_right _ h)))))
theorem qown_eq {k : Nat} {C : String} (h : qcn[k]? = some C) : qown k = C := by unfold qown; rw [List.getD_eq_getElem?_getD, h]; rfl
theorem qmet_eq {mi : Nat} {M : zM} (h : qms[mi]? = some M) : qmet mi = M.2.1 := by unfold qmet; rw [h]; rfl
theorem qfw_eq {ci : Nat} {q : vw_C} (h : qcl[ci]? = some q) (j : Nat) : qfw ci j = q.2.1 j := by unfold qfw; rw [h]
theorem qtabs (x : qExt) (sk : Nat → Option Nat) (Y : List Jvm.Cond) : zTabs (qT x sk) qTs (qNs ++ Y) qcw := by
  refine ⟨?_, ?_, ?_, ?_, ?_, ?_⟩
  · intro ci q hq
    have hq : qcl[ci]? = some q := hq
    have hlt : ci < qcl.length := (List.getElem?_eq_some_iff.mp hq).1
    have h := List.all_eq_true.mp qckC_ok ci (List.mem_range.mpr hlt)
    rw [hq] at h
    simp only [Bool.and_eq_true, List.all_eq_true, List.mem_range, decide_eq_true_eq, Bool.or_eq_true, beq_iff_eq, Bool.not_eq_true', beq_eq_false_iff_ne] at h
    refine ⟨fun w hw => qTs_C (List.mem_flatMap.mpr ⟨q, List.mem_of_getElem? hq, hw⟩), fun k hk => h.1 k hk, fun a ha b hb hab => ?_⟩
    rcases h.2 a ha b hb with e | e
    · exact absurd e hab
    · exact e
  · intro k C hC
    have hC : qcn[k]? = some C := hC
    have ho := qown_eq hC
    refine ⟨?_, ?_, ?_⟩
    · intro ix ci kf h
      have h := qfind_mem (show qfind (qfl ++ qfn) k ix = some (ci, kf) from h)
      rcases List.mem_append.mp h with h | h
      · have hc := List.all_eq_true.mp qckF_ok _ h
        unfold qckF at hc
        dsimp only at hc
        split at hc
        · next q hq =>
          simp only [Bool.and_eq_true, decide_eq_true_eq, Bool.or_eq_true, Bool.not_eq_true', beq_iff_eq] at hc
          refine ⟨q, hq, hc.1, Or.inl ⟨?_, fun hf => ?_⟩⟩
          · refine List.mem_append_left _ (qTs_F (List.mem_flatMap.mpr ⟨_, h, ?_⟩))
            unfold qwF
            dsimp only
            rw [qfw_eq hq, ho]
            exact List.mem_singleton_self _
          · rcases hc.2 with e | e
            · rw [hf] at e; cases e
            · rw [e, ho]
        · cases hc
      · have hc := List.all_eq_true.mp qckN_ok _ h
        unfold qckN at hc
        dsimp only at hc
        split at hc
        · next q hq =>
          simp only [Bool.and_eq_true, decide_eq_true_eq, Bool.not_eq_true', beq_eq_false_iff_ne] at hc
          refine ⟨q, hq, hc.1, Or.inr ⟨hc.2, qhost k ix, ?_⟩⟩
          refine List.mem_append_right _ (List.mem_append_left _ (List.mem_map.mpr ⟨_, h, ?_⟩))
          dsimp only
          rw [qfw_eq hq, ho]
        · cases hc
    · intro ix ci h
      have h := qfind_mem (show qfind qnl k ix = some ci from h)
      have hc := List.all_eq_true.mp qckK_ok _ h
      unfold qckK at hc
      obtain ⟨q, hq⟩ := Option.isSome_iff_exists.mp hc
      have hm : ∀ w ∈ qwN (k, ix, ci), w ∈ qTs := fun w hw => qTs_N (List.mem_flatMap.mpr ⟨_, h, hw⟩)
      unfold qwN at hm
      dsimp only at hm hq
      rw [hq] at hm
      dsimp only at hm
      rw [ho] at hm
      exact ⟨q, hq, hm _ (by simp), hm _ (by simp), hm _ (by simp)⟩
    · intro ix v h
      have h := qfind_mem (show qfind qkl k ix = some v from h)
      have hc := List.all_eq_true.mp qckV_ok _ h
      have hm : ∀ w ∈ qwK (k, ix, v), w ∈ qTs := fun w hw => qTs_K (List.mem_flatMap.mpr ⟨_, h, hw⟩)
      unfold qwK at hm
      dsimp only at hm
      rw [ho] at hm
      cases v <;> first | exact hm _ (by simp) | (simp [qckV] at hc)
  · intro t ht
    rcases ht with rfl | rfl | rfl | rfl <;> exact qTs_A (by simp [newarray.typeOf])
  · intro mi M hM
    have hM : qms[mi]? = some M := hM
    have hmem := List.mem_of_getElem? hM
    have hc := List.all_eq_true.mp qckM_ok _ hmem
    unfold qckM at hc
    simp only [Bool.and_eq_true, decide_eq_true_eq, Bool.or_eq_true, Bool.not_eq_true', beq_iff_eq, beq_eq_false_iff_ne] at hc
    obtain ⟨⟨⟨⟨⟨h1, h2⟩, h3⟩, h4⟩, h5⟩, h6⟩ := hc
    have hm : ∀ w ∈ qwM M, w ∈ qTs := fun w hw => qTs_M (List.mem_flatMap.mpr ⟨_, hmem, hw⟩)
    refine ⟨h1, h2, ⟨h3, h4⟩, hm _ (by simp [qwM]), hm _ (by simp [qwM]), h5, fun hi => ?_, ?_⟩
    · rcases h6 with e | e
      · rw [hi] at e; cases e
      · exact e
    · cases hh : M.2.2.2.2.2.2 with
      | nil => exact Or.inl ⟨by unfold qcw; rw [hh], hh⟩
      | cons a b => exact Or.inr ⟨_, by unfold qcw; rw [hh], by rw [hh]; simp⟩
  · intro k C ix mi kind n hC h
    have hC : qcn[k]? = some C := hC
    have ho := qown_eq hC
    have h := qfind_mem (show qfind qml k ix = some (mi, kind, n) from h)
    have hc := List.all_eq_true.mp qckL_ok _ h
    have hm : ∀ w ∈ qwL (k, ix, mi, kind, n), w ∈ qTs := fun w hw => qTs_L (List.mem_flatMap.mpr ⟨_, h, hw⟩)
    unfold qwL at hm
    dsimp only at hm
    rw [ho] at hm
    constructor
    · intro h3
      subst h3
      exact ⟨hm _ (by simp), hm _ (by simp), hm _ (by simp)⟩
    · intro hlt
      unfold qckL at hc
      dsimp only at hc
      rw [Bool.or_eq_true] at hc
      rcases hc with e | hc
      · simp only [beq_iff_eq] at e; omega
      · split at hc
        · next M hM =>
          rw [qmet_eq hM] at hm
          simp only [Bool.and_eq_true, decide_eq_true_eq, Bool.or_eq_true, Bool.not_eq_true', beq_eq_false_iff_ne, beq_iff_eq, Option.isNone_iff_eq_none, List.isEmpty_iff] at hc
          obtain ⟨⟨c1, c2⟩, c3⟩ := hc
          rcases (show kind = 0 ∨ kind = 1 ∨ kind = 2 by omega) with rfl | rfl | rfl
          · exact ⟨M, hM, hm _ (by simp), c1, fun _ => hm _ (by simp), fun e => by omega, fun e => by omega⟩
          · refine ⟨M, hM, hm _ (by simp), c1, fun e => by omega, fun _ => ⟨?_, hm _ (by simp), hm _ (by simp)⟩, fun e => by omega⟩
            rcases c2 with e | e
            · exact absurd rfl e
            · intro q hq
              have hq : qcl[M.1]? = some q := hq
              rw [hq] at e
              exact beq_iff_eq.mp e
          · refine ⟨M, hM, hm _ (by simp), c1, fun e => by omega, fun e => by omega, fun _ => ?_⟩
            rcases c3 with e | e
            · exact absurd rfl e
            · exact ⟨e.1.1, hm _ (by simp), e.1.2, e.2⟩
        · cases hc
  · exact fun w hw => List.all_eq_true.mp qTs_good w hw
end
section
/-! a new exception, in a launch without stack traces: its constructor writes its own cell alone -/
theorem zisRef {C n d : String} {A : Nat → Prop} {s : State} {args : Array Value} (h : va_Zq C n d A s s.heap) : (Jvm.Cond.isRef (.static C n d)).before args s = true := by
  have key : ∀ v, va_Z C n d v A s s.heap → (Term.static C n d).eval args s none [] s = some v := by
    intro v hv
    obtain ⟨cf, kf, fi, f, a, cell, h1, h2, h3, h4, h5, h6, h7, -⟩ := hv
    simp [Term.eval, State.fieldNamed?, h1, h2, h4, h5, h6, h7]
  rcases h with h | ⟨t, h⟩
  · simp [Jvm.Cond.before, Jvm.Cond.holds, Jvm.Cond.value, key _ h]
  · simp [Jvm.Cond.before, Jvm.Cond.holds, Jvm.Cond.value, key _ h]
theorem zaS {C n d : String} {A : Nat → Prop} {s : State} {H : Heap} (h : va_Zq C n d A s H) {cf : ClassId} {kf : Class} {fi : Nat} {f : Field} {a : Nat} (h1 : s.fieldFound? C n d = some (cf, kf, fi, f)) (h2 : kf.statics = some a) : ¬ A a ∧ a < H.size := by
  rcases h with ⟨cf', kf', fi', f', a', cell, g1, g2, g3, g4, g5, g6, g7, g8⟩ | ⟨t, cf', kf', fi', f', a', cell, g1, g2, g3, g4, g5, g6, g7, g8⟩ <;>
  · cases g1.symm.trans h1
    cases g4.symm.trans h2
    exact ⟨g8, (Array.getElem?_eq_some_iff.mp g5).1⟩
section ZX
variable {p : Program} {l : Launch} {e : Env} {R : Room} {s : State} {m : MethodId} {sargs : Array Value} {below : List Frame} {meth : Method} {c : Code} {H : Heap} {locs : List Loc} {cells slots : Nat} {Q : State → Prop}
set_option maxHeartbeats 4000000 in
theorem zexInit (hx : p.tables.exec = Jvm.exec) (hfl : ∀ e : Env, l.admits e → e.platform.stackTraces = false) {cc : ByteArray} (hb : c.code = cc) {own X : String} {names : List String} {ic nL pc : Nat} (hml : c.maxLocals = nL) {ls : Array Slot} (hsize : ls.size = nL)
    (hown : s.vm.findClass own = some m.cls) (hcls : Bundle.fit X = true) (hnames : ∀ n ∈ names, Bundle.fit n = true) (h : ∀ a ∈ Bundle.ownAtoms0 own ic X names, a.before sargs s = true)
    {A : Nat → Prop} (hZ : va_Zq Bundle.tN "UNASSIGNED_STACK" Bundle.steD A s s.heap) (hlA : ∀ q ∈ locs, A q.base)
    {a : Nat} {cX : ClassId} {kX : Class} (hfX : s.vm.findClass X = some cX) (hkX : s.vm.classes[cX]? = some kX) (hcell : H[a]? = some (blank cX kX)) (hnew : s.heap.size ≤ a) {rest : List Value}
    (hdg : decode cc pc = .ok (.invokespecial ic, 3)) (hRf : names.length + 3 < R.frames) (hRl : (rest.map fun v => v.category).sum + (13 * (names.length + 1) + 41) ≤ R.locals)
    (kk : ∀ (cell' : Cell) (L : List Loc), cell'.cls = cX → cell'.vm.isStatics = false → (∀ q ∈ L, q.base = a) → W p l e R s m sargs below meth c (H.setIfInBounds a cell') (locs ++ L) cells slots Q (F0 m (pc + 3) ls rest)) :
    W p l e R s m sargs below meth c H locs cells slots Q (F0 m pc ls (.ref a :: rest)) := by
  intro T hT X0
  subst hT
  have htr := hfl e X0.admits
  have howns : e.platform.frameOwnsMonitors = true := by rw [X0.admits.platform]
  have hfin : e.platform.finalization = false := by rw [X0.admits.platform]
  have hpl : e.platform.magicAccessors = ({} : Platform).magicAccessors := by rw [X0.admits.platform]
  have a' : ∀ x, x ∈ Bundle.ownAtoms0 own ic X names → x.holds sargs s none s [] = true := fun x hx => h x hx
  obtain ⟨TT, Z, L, LZ, Y⟩ := ThrowableC.of_atoms (args := sargs) howns hfin hpl (fun x hx => h x (by simp [Bundle.ownAtoms0, hx]))
  obtain ⟨P1, Ps, hlen, L1, hL, hP1m, hlink1, hlink⟩ := Bundle.chain0 (args := sargs) hpl Y.init0 names X hcls hnames (fun x hx => h x (by simp [Bundle.ownAtoms0, hx]))
  have hfound : s.vm.findClass X = some P1.m.cls := findClass_of_methodNamed hP1m
  cases hfX.symm.trans hfound
  obtain ⟨c1, kX', hc1, hk, hord, -, -, hn6⟩ := Cond.instantiable_spec (a' (.instantiable X 6) (by simp [Bundle.ownAtoms0]))
  cases hc1.symm.trans hfound
  cases hkX.symm.trans hk
  have sel : ∀ {x : MethodName} {mx : MethodId}, s.methodNamed? x = some mx → x.cls ≠ "java/lang/invoke/MethodHandle" ∧ x.cls ≠ "java/lang/invoke/VarHandle" → (Jvm.Cond.selects X x x).holds sargs s none s [] = true → selectMethod e.platform s.vm P1.m.cls mx = .method mx := by
    intro x mx hm hne hsel
    obtain ⟨c2, r2, m2, q1, q2, q3, q4, -⟩ := Cond.selects_spec hsel
    cases q1.symm.trans hfound
    cases q2.symm.trans (State.methodFound?_of_named hm hne)
    cases q3.symm.trans hm
    rw [Launch.admits_selectMethod X0.admits]; exact q4
  have hsel0 := sel Y.fill0 (by decide) (a' (.selects X Bundle.tFill0 Bundle.tFill0) (by simp [Bundle.ownAtoms0]))
  have hselF := sel Y.fill (by decide) (a' (.selects X Bundle.tFill Bundle.tFill) (by simp [Bundle.ownAtoms0]))
  obtain ⟨cellS0, hcS0, hiss⟩ := Y.statics
  obtain ⟨u0, hu0⟩ := Cond.staticRefV Y.unassigned L.unassignedStatic L.statics hcS0 hiss (a' (.isRef (.static Bundle.tN "UNASSIGNED_STACK" Bundle.steD)) (by simp [Bundle.ownAtoms0]))
  obtain ⟨sen, hsen⟩ := Cond.staticRefV Y.sentinel L.sentinelStatic L.statics hcS0 hiss (a' (.isRef (.static Bundle.tN "SUPPRESSED_SENTINEL" Bundle.listD)) (by simp [Bundle.ownAtoms0]))
  obtain ⟨ci198, i198, fB, hk198, hg198, ha198, hsB, -, hnB, htB, hffB⟩ := Cond.ownField (t := .object "java/lang/Object") Y.found L.cls (by decide +kernel) (a' (.fieldLink Bundle.tN 198 Bundle.tN "backtrace" "Ljava/lang/Object;") (by simp [Bundle.ownAtoms0])) (a' (.lays Bundle.tN Bundle.tN "backtrace" "Ljava/lang/Object;") (by simp [Bundle.ownAtoms0])) e.platform hpl
  obtain ⟨haA, halt⟩ := zaS hZ Y.unassigned L.statics
  have hout' : ∀ i, (⟨TT.aS, i⟩ : Loc) ∉ locs := fun i hmem => haA (hlA _ hmem)
  obtain ⟨cellS, hcellS, heS, -, hkeep⟩ := X0.same.2.2.2.2.2 TT.aS cellS0 hcS0
  have hcellS : T.heap[TT.aS]? = some cellS := hcellS
  have hknownS : cellS.vm ≠ .unknown := by
    rw [heS]; intro hu
    rw [show cellS0.vm = .unknown from hu] at hiss
    cases hiss
  have hneS : TT.aS ≠ a := Nat.ne_of_lt (Nat.lt_of_lt_of_le halt hnew)
  obtain ⟨tyC, dC, hdC, hdnC⟩ := Cond.laysAt hfound hk Y.cause (a' (.lays X Bundle.tN "cause" "Ljava/lang/Throwable;") (by simp [Bundle.ownAtoms0]))
  obtain ⟨tyS, dS, hdS, hdnS⟩ := Cond.laysAt hfound hk Y.stack (a' (.lays X Bundle.tN "stackTrace" Bundle.steD) (by simp [Bundle.ownAtoms0]))
  obtain ⟨tyP, dP, hdP, hdnP⟩ := Cond.laysAt hfound hk Y.supp (a' (.lays X Bundle.tN "suppressedExceptions" Bundle.listD) (by simp [Bundle.ownAtoms0]))
  obtain ⟨tyB, dB, hdB, hdnB⟩ := Cond.laysAt hfound hk hffB (a' (.lays X Bundle.tN "backtrace" "Ljava/lang/Object;") (by simp [Bundle.ownAtoms0]))
  have bC := Cond.laysApart hdB hdC hdnB hdnC (by rw [hnB, Y.causeName]; decide)
  have bS := Cond.laysApart hdB hdS hdnB hdnS (by rw [hnB, Y.stackName]; decide)
  have bP := Cond.laysApart hdB hdP hdnB hdnP (by rw [hnB, Y.suppName]; decide)
  have hskip : SkipFacts TT e.platform s (fun u => u) u0 ((preparedCellV TT.toThrowableT (freshCell P1.m.cls kX) a u0 sen).withEntry T.cur) :=
    ⟨{ ci198 := ci198, i198 := i198, fBack := fB }, ⟨hk198, hg198, ha198, hsB⟩, by
      have := fresh_default (c := P1.m.cls) tyB
      rw [htB] at this
      simpa [preparedCellV, Cell.setSlot, Cell.withEntry, Array.getElem?_setIfInBounds, bC, bS, bP, bC.symm, bS.symm, bP.symm, defaultValue] using this, fun _ _ => rfl⟩
  obtain ⟨tm, methC, cdC, kC, vm₁, hnC, -, -, -, -, -, -, -, hW₁, st1⟩ := Steps.initCold (tb := p.tables) (e := e) (below := below) (s := s) (U := T) X0.here hx X0.warmed hpl hown (t := Bundle.init0 X) rfl rfl (Bundle.fit_spec hcls).2
    (a' (.methodLink own ic (Bundle.init0 X)) (by simp [Bundle.ownAtoms0])) (h (.instanceMethod (Bundle.init0 X)) (by cases names <;> simp [Bundle.ownAtoms0, Bundle.chain0Atoms, Bundle.passAtoms])) (bytes := Bundle.five) (maxL := 1) (h (.code (Bundle.init0 X) Bundle.five 1 none) (by cases names <;> simp [Bundle.ownAtoms0, Bundle.chain0Atoms, Bundle.passAtoms]))
    (f := F0 m pc ls (.ref a :: rest)) rfl (a := a) (rest := rest) rfl (by rw [hb]; exact hdg)
  cases hnC.symm.trans hP1m
  have X₁ := X0.noted hW₁
  obtain ⟨vm₂, X₂, st2⟩ := X₁.ctorPlainOffV hx (g := F0 m pc ls rest) rfl (hsize.trans hml.symm) TT L Z LZ (P1 :: Ps)
    (fun P hP => by rcases List.mem_cons.mp hP with rfl | hP; exact L1; exact hL P hP) ⟨hlink1, hlink⟩ (u0 := u0) (sen := sen) (self := a) (cell := freshCell P1.m.cls kX) (cellS := cellS)
    hcell (fun _ => by simp) (by simp) rfl rfl hsel0 hselF hcellS hneS hknownS (by rw [hkeep _ (hout' _)]; exact hu0) (by rw [hkeep _ (hout' _)]; exact hsen)
    (Takes.of_laid hk hord tyC (by rw [Y.causeType]; rfl)) (Takes.of_laid hk hord tyS (by rw [Y.stackType]; exact fits_refV_array _ u0)) (Takes.of_laid hk hord tyP (by rw [Y.suppType]; exact fits_refV_object _ sen)) Y.objLocals hskip htr [] (by rw [hb]; exact hdg)
    (by simp only [List.length_cons, hlen]; omega) (by simp only [List.length_cons, hlen]; exact (by show 2 * 0 + _ + _ ≤ _; omega))
  obtain ⟨t, st3, hq⟩ := kk ((preparedCellV TT.toThrowableT (freshCell P1.m.cls kX) a u0 sen).setSlot TT.fStack.slot u0.v) _ rfl rfl (fun q hq => by simp at hq; rcases hq with rfl | rfl | rfl | rfl <;> rfl) _ rfl X₂
  exact ⟨t, st1 _ (fun acts => by rw [doInvoke_state]; exact st2 _ st3), hq⟩
end ZX
end
section
/-! the words on exceptions (places printed by wip/whole/gen_tables.py) -/
def qxn : Nat → String := fun x => match x with
  | 0 => "java/lang/IllegalArgumentException"
  | 1 => "java/lang/UnsupportedOperationException"
  | 2 => "java/lang/IllegalStateException"
  | _ => "java/lang/ArithmeticException"
def qxnm : List String := ["java/lang/RuntimeException", "java/lang/Exception"]
def qnr (w : Jvm.Cond) : Bool := match w with
  | .isRef _ => false
  | .laysStatic _ _ _ => false
  | _ => true
def qxA (e : Nat × Nat × Nat × Nat) : List Jvm.Cond := [.classLink (qown e.1) e.2.1 (qxn e.2.2.1), .instantiable (qxn e.2.2.1) 6, .initialized (qxn e.2.2.1)] ++ (Bundle.ownAtoms0 (qown e.1) e.2.2.2 (qxn e.2.2.1) qxnm).filter qnr
def qXs : List Jvm.Cond := qxl.flatMap qxA
set_option maxRecDepth 100000 in
set_option maxHeartbeats 4000000 in
theorem qxin_0 : qxA (1, 25, 0, 27) = ([(2, 72), (2, 73), (1, 13), (1, 10), (2, 94), (2, 103), (2, 108), (2, 111), (2, 113), (2, 95), (2, 96), (1, 39), (1, 40), (2, 97), (2, 102), (2, 109), (2, 126), (2, 84), (2, 127), (2, 86), (2, 128), (2, 88), (2, 98), (2, 100), (2, 90), (2, 115), (2, 116), (2, 117), (2, 118), (2, 75), (2, 118), (2, 119), (2, 120), (2, 121), (2, 77), (2, 121), (2, 122), (2, 123), (2, 95), (2, 79), (2, 114), (2, 73), (2, 74), (2, 81), (2, 82), (2, 83), (2, 85), (2, 87), (2, 89), (2, 93), (2, 92), (2, 91)] : List (Nat × Nat)).filterMap qget := rfl
set_option maxRecDepth 100000 in
set_option maxHeartbeats 4000000 in
theorem qxin_1 : qxA (1, 28, 1, 30) = ([(2, 151), (2, 152), (1, 14), (1, 10), (2, 94), (2, 103), (2, 108), (2, 111), (2, 113), (2, 95), (2, 96), (1, 39), (1, 40), (2, 97), (2, 102), (2, 109), (2, 126), (2, 84), (2, 127), (2, 86), (2, 128), (2, 88), (2, 98), (2, 100), (2, 90), (2, 161), (2, 162), (2, 163), (2, 118), (2, 75), (2, 118), (2, 119), (2, 120), (2, 121), (2, 77), (2, 121), (2, 122), (2, 123), (2, 95), (2, 79), (2, 160), (2, 152), (2, 153), (2, 154), (2, 107), (2, 155), (2, 156), (2, 157), (2, 158), (2, 93), (2, 92), (2, 159)] : List (Nat × Nat)).filterMap qget := rfl
set_option maxRecDepth 100000 in
set_option maxHeartbeats 4000000 in
theorem qxin_2 : qxA (0, 217, 2, 219) = ([(5, 68), (5, 69), (1, 30), (1, 10), (2, 94), (2, 103), (2, 108), (2, 111), (2, 113), (2, 95), (2, 96), (1, 39), (1, 40), (2, 97), (2, 102), (2, 109), (2, 126), (2, 84), (2, 127), (2, 86), (2, 128), (2, 88), (2, 98), (2, 100), (2, 90), (5, 78), (5, 79), (5, 80), (2, 118), (2, 75), (2, 118), (2, 119), (2, 120), (2, 121), (2, 77), (2, 121), (2, 122), (2, 123), (2, 95), (2, 79), (5, 77), (5, 69), (5, 70), (5, 71), (2, 106), (5, 72), (5, 73), (5, 74), (5, 75), (2, 93), (2, 92), (5, 76)] : List (Nat × Nat)).filterMap qget := rfl
set_option maxRecDepth 100000 in
set_option maxHeartbeats 4000000 in
theorem qxin_3 : qxA (10, 24, 3, 26) = ([(5, 110), (5, 111), (1, 32), (1, 10), (2, 94), (2, 103), (2, 108), (2, 111), (2, 113), (2, 95), (2, 96), (1, 39), (1, 40), (2, 97), (2, 102), (2, 109), (2, 126), (2, 84), (2, 127), (2, 86), (2, 128), (2, 88), (2, 98), (2, 100), (2, 90), (5, 120), (5, 121), (5, 122), (2, 118), (2, 75), (2, 118), (2, 119), (2, 120), (2, 121), (2, 77), (2, 121), (2, 122), (2, 123), (2, 95), (2, 79), (5, 119), (5, 111), (5, 112), (5, 113), (2, 105), (5, 114), (5, 115), (5, 116), (5, 117), (2, 93), (2, 92), (5, 118)] : List (Nat × Nat)).filterMap qget := rfl
theorem qXs_in : ∀ w ∈ qXs, w ∈ lw_tbl := by
  intro w hw
  obtain ⟨e, he, hw⟩ := List.mem_flatMap.mp hw
  simp only [qxl, List.mem_cons, List.not_mem_nil, or_false] at he
  rcases he with rfl | rfl | rfl | rfl
  · exact qget_in qxin_0 w hw
  · exact qget_in qxin_1 w hw
  · exact qget_in qxin_2 w hw
  · exact qget_in qxin_3 w hw
set_option maxRecDepth 100000 in
set_option maxHeartbeats 4000000 in
theorem qXs_good : qXs.all (fun w => w.onTables && (w.keepsFace || w.castAtom)) = true := by decide +kernel
end
section
/-! what lies below n0 and in the tables, and stays; a new exception's row -/
theorem zkeep {w : Jvm.Cond} (h : (w.onTables && (w.keepsFace || w.castAtom)) = true) {s U : State} {A a : Array Value} (hW : s.WarmedH U.vm) (hb : w.before A s = true) : w.before a U = true := by
  simp only [Bool.and_eq_true, Bool.or_eq_true] at h
  have h1 : w.before A (s.setVm U.vm) = true := by
    rcases h.2 with q | q
    · exact Cond.before_shiftedFace (State.Shifted.of_warmed hW) _ q hb
    · exact Cond.castAtom_setVm hW.alike _ q hb
  exact va_tabs h.1 (u := s.setVm U.vm) (U := U) rfl h1
theorem zlsMove {C n d : String} {n0 : Nat} {s U : State} {a0 : Array Value} (h : (Jvm.Cond.laysStatic C n d).before a0 s = true) (hZ : va_Zq C n d (fun q : Nat => n0 ≤ q) s s.heap) (hW : s.WarmedH U.vm) (hq : ∀ q : Nat, q < n0 → U.heap[q]? = s.heap[q]?) (a : Array Value) : (Jvm.Cond.laysStatic C n d).before a U = true := by
  have h1 : (Jvm.Cond.laysStatic C n d).before a0 (s.setVm U.vm) = true := Cond.before_shiftedFace (State.Shifted.of_warmed hW) _ rfl h
  obtain ⟨c, k, i, f, b, cell, g1, g2, g3, g4, g5, g6, g7, g8, g9⟩ := Cond.laysStatic_spec h1
  have hb : b < n0 := by
    have := zaS (va_Zq.moved (u := s) (U := s.setVm U.vm) hW.alike hZ) g2 g4
    exact Nat.lt_of_not_le this.1
  have g5' : U.heap[b]? = some cell := by rw [hq b hb]; exact g5
  have g1' : U.vm.findClass C = some c := g1
  have g2' : U.fieldFound? C n d = some (c, k, i, f) := g2
  simp [Jvm.Cond.before, Jvm.Cond.holds, Jvm.Cond.value, g1', g2', g3, g4, g5', g6, g7, g8, g9]
def qst0 (n0 : Nat) (U : State) : Prop := (∀ w ∈ qXs, w.before #[] U = true) ∧ (∀ w ∈ qNs, va_Nw w U) ∧ va_Zq Bundle.tN "UNASSIGNED_STACK" Bundle.steD (fun q : Nat => n0 ≤ q) U U.heap ∧ va_Zq Bundle.tN "SUPPRESSED_SENTINEL" Bundle.listD (fun q : Nat => n0 ≤ q) U U.heap ∧
  (Jvm.Cond.laysStatic Bundle.tN "UNASSIGNED_STACK" Bundle.steD).before #[] U = true ∧ (Jvm.Cond.laysStatic Bundle.tN "SUPPRESSED_SENTINEL" Bundle.listD).before #[] U = true
theorem qst0_Xs {n0 : Nat} {U : State} (h : qst0 n0 U) : ∀ w ∈ qXs, ∀ a : Array Value, w.before a U = true := by
  intro w hw a
  have hg := List.all_eq_true.mp qXs_good w hw
  simp only [Bool.and_eq_true] at hg
  exact va_tabs hg.1 rfl (h.1 w hw)
theorem qNs_form {w : Jvm.Cond} (hw : w ∈ qNs) : ∃ a i b n d h, w = .fieldLinkNest a i b n d h := by
  obtain ⟨e, -, rfl⟩ := List.mem_map.mp hw
  exact ⟨_, _, _, _, _, _, rfl⟩
theorem qst0_Ns {n0 : Nat} {U : State} (h : qst0 n0 U) : ∀ w ∈ qNs ++ qXs, ∀ a : Array Value, w.before a U = true := by
  intro w hw a
  rcases List.mem_append.mp hw with q | q
  · obtain ⟨x1, x2, x3, x4, x5, x6, rfl⟩ := qNs_form q
    exact va_Nw.use rfl (h.2.1 _ q)
  · exact qst0_Xs h w q a
theorem qst0_stay (n0 : Nat) : ∀ s U : State, qst0 n0 s → s.WarmedH U.vm → (∀ q : Nat, q < n0 → U.heap[q]? = s.heap[q]?) → qst0 n0 U := by
  intro s U ⟨h1, h2, h3, h4, h5, h6⟩ hW hq
  have hq' : ∀ a : Nat, a < s.heap.size → ¬ (fun q : Nat => n0 ≤ q) a → U.heap[a]? = s.heap[a]? := fun a _ ha => hq a (Nat.lt_of_not_le ha)
  refine ⟨fun w hw => zkeep (List.all_eq_true.mp qXs_good w hw) hW (h1 w hw), fun w hw => ?_, (va_Zq.moved hW.alike h3).kept hq', (va_Zq.moved hW.alike h4).kept hq', zlsMove h5 h3 hW hq _, zlsMove h6 h4 hW hq _⟩
  obtain ⟨x1, x2, x3, x4, x5, x6, rfl⟩ := qNs_form hw
  exact va_Nw.warmF hW (h2 _ hw)
set_option maxHeartbeats 4000000 in
theorem qthr (l : Launch) (hfl : ∀ e : Env, l.admits e → e.platform.stackTraces = false) (x : qExt) (sk : Nat → Option Nat) (n0 : Nat) {zst : State → Prop} (hz0 : ∀ U, zst U → qst0 n0 U) : zThrOK l (qT x sk) qTs (qNs ++ qXs) qxn n0 zst := by
  intro p e R s m sargs below meth c H locs cells slots Q cc pc k nL xi C ls cs i hx hb hml hsize hC hown hts hz hn0 hS hRf hRl hRc hRs hcat hs st hdg hth kk
  have hz1 := hz0 s hz
  have hC : qcn[k]? = some C := hC
  have ho := qown_eq hC
  unfold zth at hth
  split at hth
  · next ix =>
    split at hth
    · next xi' ic hxl =>
      have hmem := qfind_mem (show qfind qxl k ix = some (xi', ic) from hxl)
      split at hth
      · next j hd1 hd2 hd3 =>
        split at hth
        · next hj =>
          obtain ⟨rfl, -, -⟩ := hj
          cases hth
          have hw : ∀ w ∈ qxA (k, ix, xi, j), w.before sargs s = true := fun w hw => qst0_Xs hz1 w (List.mem_flatMap.mpr ⟨_, hmem, hw⟩) _
          unfold qxA at hw
          dsimp only at hw
          rw [ho] at hw
          have hwA : ∀ w ∈ Bundle.ownAtoms0 C j (qxn xi) qxnm, w.before sargs s = true := by
            intro w hw1
            by_cases hn : qnr w = true
            · exact hw w (List.mem_append_right _ (List.mem_filter.mpr ⟨hw1, hn⟩))
            · cases w <;> first | exact absurd rfl hn | skip
              · next t =>
                have ht : t = .static Bundle.tN "UNASSIGNED_STACK" Bundle.steD ∨ t = .static Bundle.tN "SUPPRESSED_SENTINEL" Bundle.listD := by
                  simpa [Bundle.ownAtoms0, Bundle.throwableAtoms, qxnm, Bundle.chain0Atoms, Bundle.passAtoms] using hw1
                rcases ht with rfl | rfl
                · exact zisRef hz1.2.2.1
                · exact zisRef hz1.2.2.2.1
              · next t1 t2 t3 =>
                have ht : (t1 = Bundle.tN ∧ t2 = "UNASSIGNED_STACK" ∧ t3 = Bundle.steD) ∨ (t1 = Bundle.tN ∧ t2 = "SUPPRESSED_SENTINEL" ∧ t3 = Bundle.listD) := by
                  simpa [Bundle.ownAtoms0, Bundle.throwableAtoms, qxnm, Bundle.chain0Atoms, Bundle.passAtoms] using hw1
                rcases ht with ⟨rfl, rfl, rfl⟩ | ⟨rfl, rfl, rfl⟩
                · exact hz1.2.2.2.2.1
                · exact hz1.2.2.2.2.2
          have w1 : (Jvm.Cond.classLink C ix (qxn xi)).before sargs s = true := hw _ (by simp)
          have w2 : (Jvm.Cond.instantiable (qxn xi) 6).before sargs s = true := hw _ (by simp)
          have w3 : (Jvm.Cond.initialized (qxn xi)).before sargs s = true := hw _ (by simp)
          obtain ⟨cX, kX, hfX, -⟩ := Cond.instantiable_spec w2
          have hfit : Bundle.fit (qxn xi) = true := by
            unfold qxn
            split <;> decide +kernel
          refine W.newcK hx hb hown w1 w2 w3 (g := F0 m pc ls cs) rfl hdg hRc hRs hfX rfl (fun H' kX' hkX hcell hsz hkeep => ?_)
          refine W.eq (g2 := F0 m (pc + 3) ls (.ref H.size :: cs)) rfl ?_
          refine lv_dup hx hb hd1 rfl ?_
          have hnew : s.heap.size ≤ H.size := hS.1
          refine zexInit hx hfl hb hml hsize hown hfit (by decide +kernel) hwA hz1.2.2.1 hS.2.2 hfX hkX hcell hnew hd2 (by show 2 + 3 < R.frames; omega) (by rw [List.map_cons, List.sum_cons]; show 1 + (cs.map fun v => v.category).sum + (13 * (2 + 1) + 41) ≤ R.locals; omega) (fun cell' L e1 e2 e3 => ?_)
          refine zathrow hx hb hd3 ?_
          have hH1 : ∀ q : Nat, q < H.size → (H'.setIfInBounds H.size cell')[q]? = H[q]? := fun q hq => by
            rw [Array.getElem?_setIfInBounds_ne (by omega)]; exact hkeep q hq
          refine kk H.size _ _ hH1 ⟨?_, fun q h1 h2 => ?_, fun q hq => ?_⟩ (fun t ht hW => ⟨cell', ?_, e2, ?_⟩)
          · rw [Array.size_setIfInBounds, hsz]; omega
          · rw [hH1 q (by omega)]; exact hS.2.1 q h1 h2
          · rcases List.mem_append.mp hq with z | z
            · exact hS.2.2 q z
            · rw [e3 q z]; exact Nat.le_trans hn0 hnew
          · rw [ht]; simp [hsz]
          · rw [hW.alike.findClass, e1]; exact hfX
        · cases hth
      · cases hth
    · cases hth
  · cases hth
end
section
/-! a handler's row: the search through the table, its catch types linked now or before -/
theorem zgoOne {e : Env} {f : JFrame} {a : Nat} {y : ExceptionTableEntry} {ys : List ExceptionTableEntry} {S : State} {ct : ClassId} {cell : Cell} {Q : Handler → Pre} {E : CtlPost} {d : Bool} {acts : List Action} (hy : covers y f.pc = true) (h0 : y.catchType ≠ 0)
    (hl : S.vm.ClassLinks e.platform f.method.cls y.catchType ct) (hcell : S.heap[a]? = some cell) (hobj : ∀ k, cell.vm ≠ .statics k) (hk : ∃ k, S.vm.classes[cell.cls]? = some k) (hc : ∃ k, S.vm.classes[ct]? = some k) :
    wp (findHandler.go f a (y :: ys)) Q E e d acts S ↔ if S.vm.assignable cell.cls ct = true then Q (.found y.handlerPc) d acts (S.setVm (S.vm.noted f.method.cls y.catchType (.cls ct))) else wp (findHandler.go f a ys) Q E e d acts (S.setVm (S.vm.noted f.method.cls y.catchType (.cls ct))) := by
  have hy' : (decide (y.startPc ≤ f.pc) && decide (f.pc < y.endPc)) = true := hy
  obtain ⟨ha, ht⟩ := (resolveClass_links e.toSetting hl).op (op := VmOp.resolveClass f.method.cls y.catchType) rfl
  have hal : S.vm.Alike (S.vm.noted f.method.cls y.catchType (.cls ct)) := (Vm.Alike.refl S.vm).noted _ _ _
  obtain ⟨k1, g1, -⟩ := hal.2.2 _ _ hk.choose_spec
  obtain ⟨k2, g2, -⟩ := hal.2.2 _ _ hc.choose_spec
  have has : (S.vm.noted f.method.cls y.catchType (.cls ct)).assignable cell.cls ct = S.vm.assignable cell.cls ct := hal.assignable ..
  cases hfit : S.vm.assignable cell.cls ct <;> simp [findHandler.go, hy', h0, ha, ht, hcell, hobj, g1, g2, has, hfit, VmOp.dirties, VmOp.acts]
/-- the rows' classes: 'tg'; the first covering row whose class takes the object -/
theorem zsearch {e : Env} {s0 : State} {f : JFrame} {a : Nat} {cell : Cell} (tg : ExceptionTableEntry → ClassId) (hobj : ∀ k, cell.vm ≠ .statics k) (hk0 : ∃ k, s0.vm.classes[cell.cls]? = some k) :
    ∀ (es : List ExceptionTableEntry) (S : State), s0.WarmedH S.vm → S.heap[a]? = some cell → (∀ y ∈ es, covers y f.pc = true → y.catchType ≠ 0 ∧ s0.vm.ClassLinks e.platform f.method.cls y.catchType (tg y)) →
      ∀ x0, es.find? (fun y => covers y f.pc && s0.vm.assignable cell.cls (tg y)) = some x0 → ∃ vm', s0.WarmedH vm' ∧ ∀ (Q : Handler → Pre) (E : CtlPost) (d : Bool) (acts : List Action), wp (findHandler.go f a es) Q E e d acts S ↔ Q (.found x0.handlerPc) d acts (S.setVm vm') := by
  intro es
  induction es with
  | nil => intro S hW hcell hes x0 hf; cases hf
  | cons y ys ih =>
    intro S hW hcell hes x0 hf
    have hes' : ∀ z ∈ ys, covers z f.pc = true → z.catchType ≠ 0 ∧ s0.vm.ClassLinks e.platform f.method.cls z.catchType (tg z) := fun z hz => hes z (List.mem_cons_of_mem _ hz)
    cases hcov : covers y f.pc with
    | false =>
      rw [List.find?_cons_of_neg (by simp [hcov])] at hf
      obtain ⟨vm', h1, h2⟩ := ih S hW hcell hes' x0 hf
      exact ⟨vm', h1, fun Q E d acts => (W.findHandler_go_skip hcov).trans (h2 Q E d acts)⟩
    | true =>
      obtain ⟨h0, hl⟩ := hes y List.mem_cons_self hcov
      obtain ⟨dk, _, _, kt, hd, _, _, _, _, hkt, _, hopen⟩ := hl.here
      obtain ⟨k1, g1, -⟩ := hW.alike.2.2 _ _ hk0.choose_spec
      obtain ⟨k2, g2, -⟩ := hW.alike.2.2 _ _ hkt
      have hone := fun (Q : Handler → Pre) (E : CtlPost) (d : Bool) (acts : List Action) => zgoOne (ys := ys) (Q := Q) (E := E) (d := d) (acts := acts) hcov h0 (hW.classLinks hl) hcell hobj ⟨k1, g1⟩ ⟨k2, g2⟩
      have has : S.vm.assignable cell.cls (tg y) = s0.vm.assignable cell.cls (tg y) := hW.alike.assignable ..
      have hW2 : s0.WarmedH (S.vm.noted f.method.cls y.catchType (.cls (tg y))) := hW.noted hd hopen (State.rightAt_cls hl)
      cases hfit : s0.vm.assignable cell.cls (tg y) with
      | true =>
        rw [List.find?_cons_of_pos (by simp [hcov, hfit])] at hf
        cases hf
        exact ⟨_, hW2, fun Q E d acts => by rw [hone, has, hfit]; simp⟩
      | false =>
        rw [List.find?_cons_of_neg (by simp [hcov, hfit])] at hf
        obtain ⟨vm', h1, h2⟩ := ih (S.setVm (S.vm.noted f.method.cls y.catchType (.cls (tg y)))) hW2 hcell hes' x0 hf
        exact ⟨vm', h1, fun Q E d acts => by rw [hone, has, hfit]; simp only [Bool.false_eq_true, if_false]; exact h2 Q E d acts⟩
/-- into the handler -/
theorem zcaught {p : Program} {l : Launch} {e : Env} {R : Room} {s : State} {m : MethodId} {sargs : Array Value} {below : List Frame} {meth : Method} {c : Code} {H : Heap} {locs : List Loc} {cells slots : Nat} {Q : State → Prop} {b pc : Nat} {ls : Array Slot} {rest : List Value} {cell : Cell} (tg : ExceptionTableEntry → ClassId)
    (hcell : H[b]? = some cell) (hobj : cell.vm.isStatics = false) (hk0 : ∃ k, s.vm.classes[cell.cls]? = some k) (hes : ∀ e : Env, l.admits e → ∀ y ∈ c.exceptionTable.toList, covers y pc = true → y.catchType ≠ 0 ∧ s.vm.ClassLinks e.platform m.cls y.catchType (tg y))
    {x0 : ExceptionTableEntry} (hf : c.exceptionTable.toList.find? (fun y => covers y pc && s.vm.assignable cell.cls (tg y)) = some x0)
    (k : W p l e R s m sargs below meth c H locs cells slots Q (F0 m x0.handlerPc ls [.ref b])) : zWT p l e R s m sargs below meth c H locs cells slots Q b (F0 m pc ls rest) := by
  intro T hT X
  subst hT
  obtain ⟨vm', hW', hq⟩ := zsearch (e := e) (s0 := s) (f := F0 m pc ls rest) (a := b) tg (VmData.ne_statics_of hobj) hk0 c.exceptionTable.toList ((T.setTop (F0 m pc ls rest)).pushFrame (.throwing b)) X.warmed hcell (hes e X.admits) x0 hf
  obtain ⟨t, a1, b1⟩ := k (T.setVm vm') rfl (X.noted hW')
  refine ⟨t, ?_, b1⟩
  obtain ⟨hgo, hw⟩ := X.here.throwing (g := F0 m pc ls rest) b
  refine Steps.head hgo hw ?_
  have hstep : (stepThrowing e ((T.setTop (F0 m pc ls rest)).pushFrame (.throwing b)) b (.java (F0 m pc ls rest) :: T.frames.tail)).Is ((((T.setTop (F0 m pc ls rest)).pushFrame (.throwing b)).setVm vm').setFrames (.java { F0 m pc ls rest with pc := x0.handlerPc, stack := [.ref b] } :: T.frames.tail)) [] := by
    have hm' : ((T.setTop (F0 m pc ls rest)).pushFrame (.throwing b)).vm.method? (F0 m pc ls rest).method = some meth := X.method'
    have hqq : ∀ (Q : Handler → Pre) (E : CtlPost) (d : Bool) (acts : List Action), wp (findHandler (F0 m pc ls rest) b) Q E e d acts ((T.setTop (F0 m pc ls rest)).pushFrame (.throwing b)) ↔ Q (.found x0.handlerPc) d acts (((T.setTop (F0 m pc ls rest)).pushFrame (.throwing b)).setVm vm') := fun Q E d acts => (W.findHandler_eq hm' X.code).trans (hq Q E d acts)
    simp only [stepThrowing, searchFrame, vmDo]
    generalize hr : Sem.go _ e false [] _ = res
    obtain ⟨as, rfl, ha⟩ := Sem.eq_ok_of hr (a := Handler.found x0.handlerPc) (s' := ((T.setTop (F0 m pc ls rest)).pushFrame (.throwing b)).setVm vm') (acts' := []) (by simp [hqq])
    exact ⟨rfl, ha⟩
  rw [stepThread_throwing (frames_entered X.here.top _), hstep.1]
  obtain ⟨g0, hg⟩ := Option.isSome_iff_exists.mp X.here.top
  obtain ⟨r, hr⟩ := State.topJava?_eq_some.mp hg
  have hr' : (T.setVm vm').frames = .java g0 :: r := hr
  have e1 : ((((T.setTop (F0 m pc ls rest)).pushFrame (.throwing b)).setVm vm').setFrames (.java { F0 m pc ls rest with pc := x0.handlerPc, stack := [.ref b] } :: T.frames.tail)) = (T.setVm vm').setTop (F0 m x0.handlerPc ls [.ref b]) := by
    rw [State.setTop_of_frames _ hr', State.pushFrame, State.setTop_of_frames _ hr, hr]
    show (((T.setFrames _).setFrames _).setVm vm').setFrames _ = _
    rw [State.setFrames_setFrames]
    rw [show (T.setFrames (.throwing b :: (T.setFrames (.java (F0 m pc ls rest) :: r)).frames)).setVm vm' = (T.setVm vm').setFrames (.throwing b :: (T.setFrames (.java (F0 m pc ls rest) :: r)).frames) from rfl, State.setFrames_setFrames]
    rfl
  rw [e1]
  exact a1
end
section
/-! the law's handlers -/
def qst1 (n0 : Nat) (U : State) : Prop := qst0 n0 U ∧ (∀ x, x < 4 → (Jvm.Cond.classLink "ClassReaderLaw" (qcatch x) (qxn x)).before #[] U = true) ∧
  (∀ x, x < 4 → ∀ y, y < 4 → ∀ c1 c2, U.vm.findClass (qxn x) = some c1 → U.vm.findClass (qxn y) = some c2 → U.vm.assignable c1 c2 = decide (x = y))
theorem qst1_stay (n0 : Nat) : ∀ s U : State, qst1 n0 s → s.WarmedH U.vm → (∀ q : Nat, q < n0 → U.heap[q]? = s.heap[q]?) → qst1 n0 U := by
  intro s U ⟨h1, h2, h3⟩ hW hq
  refine ⟨qst0_stay n0 s U h1 hW hq, fun x hx => zkeep rfl hW (h2 x hx), fun x hx y hy c1 c2 e1 e2 => ?_⟩
  rw [hW.alike.findClass] at e1 e2
  rw [hW.alike.assignable]
  exact h3 x hx y hy c1 c2 e1 e2
def qinv (ct : Nat) : Nat := if ct = qcatch 0 then 0 else if ct = qcatch 1 then 1 else if ct = qcatch 2 then 2 else 3
theorem qinv_ok : ∀ x, x < 4 → qinv (qcatch x) = x ∧ qcatch x ≠ 0 := by decide
def qckH (M : zM) : Bool := M.2.2.2.2.2.2.isEmpty || (M.2.1.cls == "ClassReaderLaw" && M.2.2.2.2.2.2.all (fun q => decide (q.2.2.2 < 4)))
set_option maxRecDepth 100000 in
theorem qckH_ok : qms.all qckH = true := by decide +kernel
theorem zfindMap {α β γ : Type} {f : α → γ} {g : β → γ} {P : α → Bool} {P' : β → Bool} : ∀ {es : List α} {hs : List β}, es.map f = hs.map g → (∀ y ∈ es, ∀ q ∈ hs, f y = g q → P y = P' q) → ∀ {q0}, hs.find? P' = some q0 → ∃ y0, es.find? P = some y0 ∧ f y0 = g q0 := by
  intro es
  induction es with
  | nil => intro hs h hP q0 hf; cases hs with
    | nil => cases hf
    | cons b hs => cases h
  | cons a es ih =>
    intro hs h hP q0 hf
    cases hs with
    | nil => cases h
    | cons b hs =>
      obtain ⟨h1, h2⟩ := List.cons.inj h
      have hab := hP a List.mem_cons_self b List.mem_cons_self h1
      cases hb : P' b with
      | true =>
        rw [List.find?_cons_of_pos (by simpa using hb)] at hf
        cases hf
        exact ⟨a, by rw [List.find?_cons_of_pos (by rw [hab]; exact hb)], h1⟩
      | false =>
        rw [List.find?_cons_of_neg (by simp [hb])] at hf
        obtain ⟨y0, g1, g2⟩ := ih h2 (fun y hy q hq => hP y (List.mem_cons_of_mem _ hy) q (List.mem_cons_of_mem _ hq)) hf
        exact ⟨y0, by rw [List.find?_cons_of_neg (by rw [hab, hb]; decide)]; exact g1, g2⟩
theorem zmemMap {α β γ : Type} {f : α → γ} {g : β → γ} {es : List α} {hs : List β} (h : es.map f = hs.map g) {y : α} (hy : y ∈ es) : ∃ q ∈ hs, f y = g q := by
  have : f y ∈ hs.map g := by rw [← h]; exact List.mem_map_of_mem hy
  obtain ⟨q, hq, e⟩ := List.mem_map.mp this
  exact ⟨q, hq, e.symm⟩
theorem qhan (l : Launch) (x : qExt) (sk : Nat → Option Nat) {Ts Ns : List Jvm.Cond} {n0 : Nat} {zst : State → Prop} (hz0 : ∀ U, zst U → qst1 n0 U) : zHanOK l (qT x sk) Ts Ns qcw qxn zst := by
  intro p e R s m sargs below meth c H locs cells slots Q M mi pc xx b ls rest hM hhs hcw hnm hmeth hcode hts hz hexc
  have hM : qms[mi]? = some M := hM
  obtain ⟨-, hlk, hasg⟩ := hz0 s hz
  have hck := List.all_eq_true.mp qckH_ok _ (List.mem_of_getElem? hM)
  unfold qckH at hck
  rw [Bool.or_eq_true] at hck
  obtain ⟨hcl, hlt⟩ : M.2.1.cls = "ClassReaderLaw" ∧ ∀ q ∈ M.2.2.2.2.2.2, q.2.2.2 < 4 := by
    rcases hck with q | q
    · exact absurd (List.isEmpty_iff.mp q) hhs
    · simp only [Bool.and_eq_true, beq_iff_eq, List.all_eq_true, decide_eq_true_eq] at q
      exact q
  have hown : s.vm.findClass "ClassReaderLaw" = some m.cls := by rw [← hcl]; exact findClass_of_methodNamed hnm
  have hmap : c.exceptionTable.toList.map (fun h => (h.startPc, h.endPc, h.handlerPc, h.catchType)) = M.2.2.2.2.2.2.map (fun q => (q.1, q.2.1, q.2.2.1, qcatch q.2.2.2)) := by
    have hq : qcw M = .codeWith M.2.1 M.2.2.1 M.2.2.2.1 M.2.2.2.2.1 (M.2.2.2.2.2.2.map (fun q => (q.1, q.2.1, q.2.2.1, qcatch q.2.2.2))) := by
      unfold qcw
      split
      · next hh => exact absurd hh hhs
      · rfl
    rw [hq] at hcw
    obtain ⟨m9, meth', c', hn9, h1, h2, -, -, h5, -⟩ := Cond.codeWith_spec hcw
    cases hnm.symm.trans hn9
    cases hmeth.symm.trans h1
    cases hcode.symm.trans h2
    exact h5
  have hclass : ∀ y, y < 4 → ∃ cT, s.vm.findClass (qxn y) = some cT := by
    intro y hy
    obtain ⟨ct, k, h⟩ : ∃ ct, s.vm.findClass (qxn y) = some ct ∧ True := by
      have hpl : ({} : Platform).magicAccessors = ({} : Platform).magicAccessors := rfl
      obtain ⟨c', hc', -⟩ := Cond.classLink_spec hown (hlk y hy) {} hpl
      exact ⟨c', hc', trivial⟩
    exact ⟨ct, k⟩
  obtain ⟨cell, g1, g2, g3⟩ := hexc { s with heap := H } rfl (State.WarmedH.refl s)
  have g3 : s.vm.findClass (qxn xx) = some cell.cls := g3
  constructor
  · intro hp hzh k
    obtain ⟨q0, hf0, rfl⟩ := Option.map_eq_some_iff.mp hzh
    have hq0 := List.mem_of_find?_eq_some hf0
    have hq1 := List.find?_some hf0
    simp only [Bool.and_eq_true, beq_iff_eq] at hq1
    have hx4 : xx < 4 := by rw [← hq1.2]; exact hlt q0 hq0
    let tg : ExceptionTableEntry → ClassId := fun y => (s.vm.findClass (qxn (qinv y.catchType))).getD 0
    have htg : ∀ y ∈ c.exceptionTable.toList, ∃ q ∈ M.2.2.2.2.2.2, y.startPc = q.1 ∧ y.endPc = q.2.1 ∧ y.handlerPc = q.2.2.1 ∧ y.catchType = qcatch q.2.2.2 ∧ s.vm.findClass (qxn q.2.2.2) = some (tg y) := by
      intro y hy
      obtain ⟨q, hq, e1⟩ := zmemMap hmap hy
      simp only [Prod.mk.injEq] at e1
      obtain ⟨cT, hcT⟩ := hclass q.2.2.2 (hlt q hq)
      refine ⟨q, hq, e1.1, e1.2.1, e1.2.2.1, e1.2.2.2, ?_⟩
      show _ = some ((s.vm.findClass (qxn (qinv y.catchType))).getD 0)
      rw [e1.2.2.2, (qinv_ok _ (hlt q hq)).1, hcT]
      rfl
    obtain ⟨y0, hy0, e0⟩ := zfindMap (P := fun y => covers y pc && s.vm.assignable cell.cls (tg y)) hmap (fun y hy q hq e1 => by
      simp only [Prod.mk.injEq] at e1
      have h2 : s.vm.findClass (qxn q.2.2.2) = some (tg y) := by
        obtain ⟨cT, hcT⟩ := hclass q.2.2.2 (hlt q hq)
        show _ = some ((s.vm.findClass (qxn (qinv y.catchType))).getD 0)
        rw [e1.2.2.2, (qinv_ok _ (hlt q hq)).1, hcT]
        rfl
      have h3 := hasg xx hx4 q.2.2.2 (hlt q hq) _ _ g3 h2
      show (covers y pc && s.vm.assignable cell.cls (tg y)) = _
      rw [h3]
      unfold covers
      rw [e1.1, e1.2.1]
      congr 1
      rw [Bool.eq_iff_iff]
      simp only [decide_eq_true_eq, beq_iff_eq]
      exact eq_comm) hf0
    simp only [Prod.mk.injEq] at e0
    rw [← e0.2.2.1] at k
    refine zcaught tg g1 g2 ?_ (fun e he y hy hcv => ?_) hy0 k
    · obtain ⟨kk, h1, -⟩ := Vm.findClass_spec g3
      exact ⟨kk, h1⟩
    · obtain ⟨q, hq, -, -, -, e4, e5⟩ := htg y hy
      have hpl : e.platform.magicAccessors = ({} : Platform).magicAccessors := by rw [he.platform]
      obtain ⟨c', hc', hcl'⟩ := Cond.classLink_spec hown (hlk _ (hlt q hq)) e.platform hpl
      cases hc'.symm.trans e5
      rw [e4]
      exact ⟨(qinv_ok _ (hlt q hq)).2, hcl'⟩
  · intro hcov y hy
    obtain ⟨q, hq, e1⟩ := zmemMap hmap hy
    simp only [Prod.mk.injEq] at e1
    have h2 := hcov
    unfold zcov at h2
    rw [List.any_eq_false] at h2
    have h3 := h2 q hq
    unfold covers
    rw [e1.1, e1.2.1]
    simpa using h3
end
section
/-! from the law's entry: the claim out of one abstract run of the law -/
def R_law : String := "ClassReaderLaw"
def lw_Q (_ : Array Value) (s : State) (o : Outcome) (t : State) : Prop := o = .returned (some (.int 1)) ∧ Framed s o t [] 601024 7293034
def lw_Z (below : List Frame) (a : Array Value) (s : State) : State → Prop := fun t => ∃ o, t.status = .running ∧ Ended t below o ∧ lw_Q a s o t
def qmL : zM := (11, ⟨"ClassReaderLaw", "law", "([I)Z"⟩, code, 9, some .boolean, false, [])
theorem zforget {s t : State} {L : List Loc} {k n : Nat} (h : s.sameButNew t L k n) (hL : ∀ q ∈ L, s.heap.size ≤ q.base) : s.sameButNew t [] k n := by
  obtain ⟨h1, h2, h3, h4, h5, h6⟩ := h
  refine ⟨h1, h2, h3, h4, h5, fun a c hc => ?_⟩
  obtain ⟨c', g1, g2, g3, g4⟩ := h6 a c hc
  refine ⟨c', g1, g2, g3, fun i _ => g4 i (fun hm => ?_)⟩
  have := hL _ hm
  have h7 := (Array.getElem?_eq_some_iff.mp hc).1
  exact absurd h7 (Nat.not_lt.mpr this)
theorem qckI_ok : (List.range qcl.length).all (fun ci => qnl.any (fun e => e.2.2 == ci)) = true := by decide +kernel
/-- the classes' numbers and the kinds of arrays, at a start where the words hold -/
theorem zknown {s : State} {args : Array Value} (hts : ∀ w ∈ qTs, w.before args s = true) : ∃ (D : va_G) (tys : List (ClassId × FieldType)), zTys tys ∧ va_K D qcl tys s := by
  have hinst : ∀ (ci : Nat) (q : vw_C), qcl[ci]? = some q → (Jvm.Cond.instantiable q.1 q.2.2).before args s = true := by
    intro ci q hq
    have h1 := List.all_eq_true.mp qckI_ok ci (List.mem_range.mpr (List.getElem?_eq_some_iff.mp hq).1)
    obtain ⟨e, he, h2⟩ := List.any_eq_true.mp h1
    have h3 : e.2.2 = ci := by simpa using h2
    refine hts _ (qTs_N (List.mem_flatMap.mpr ⟨e, he, ?_⟩))
    unfold qwN
    rw [h3, hq]
    simp
  have hk : ∀ k : Nat, ∃ q : ClassId × (Nat → Nat), ∀ r : vw_C, qcl[k]? = some r → u_Kn s r.1 r.2.1 r.2.2 q.1 q.2 := by
    intro k
    cases hr : qcl[k]? with
    | none => exact ⟨(0, fun _ => 0), fun r h => by cases h⟩
    | some r =>
      obtain ⟨cC, iS, h⟩ := u_known (T := r.2.1) (N := r.2.2) hts (fun w hw => qTs_C (List.mem_flatMap.mpr ⟨r, List.mem_of_getElem? hr, hw⟩)) (hinst k r hr)
      exact ⟨(cC, iS), fun r' h' => by cases h'; exact h⟩
  obtain ⟨f, hf⟩ := Classical.axiomOfChoice hk
  have harr : ∀ t : FieldType, Jvm.Cond.arrayClass t ∈ qTs → (∀ n, t ≠ .object n) → ∃ cA, ArrOfT s cA t ∧ va_RA s cA t := by
    intro t ht hno
    obtain ⟨c, k, comp, h1, h2, h3⟩ := Cond.arrayClass_spec (hts _ ht)
    exact ⟨c, fun n z => ⟨fun k h => (by cases h), k, h2, comp, h3⟩, by cases t <;> first | exact absurd rfl (hno _) | exact h1⟩
  obtain ⟨a, ha1, ha2⟩ := harr .int (qTs_A (by simp)) (fun n h => by cases h)
  obtain ⟨b, hb1, hb2⟩ := harr .boolean (qTs_A (by simp)) (fun n h => by cases h)
  obtain ⟨c, hc1, hc2⟩ := harr .long (qTs_A (by simp)) (fun n h => by cases h)
  obtain ⟨d, hd1, hd2⟩ := harr .double (qTs_A (by simp)) (fun n h => by cases h)
  refine ⟨(fun k => (f k).1, fun k => (f k).2), [(a, .int), (b, .boolean), (c, .long), (d, .double)], ⟨a, b, c, d, rfl⟩, fun k r hr => hf k r hr, fun k q hq => ?_⟩
  match k, hq with
  | 0, hq => cases hq; exact ⟨ha1, ha2⟩
  | 1, hq => cases hq; exact ⟨hb1, hb2⟩
  | 2, hq => cases hq; exact ⟨hc1, hc2⟩
  | 3, hq => cases hq; exact ⟨hd1, hd2⟩
  | k + 4, hq => simp at hq
theorem zlaw_start {p : Program} {e : Env} {s : State} {m : MethodId} {below : List Frame} {meth : Method} {c : Code} (l : Launch) {b : Nat} (hfl : ∀ e : Env, l.admits e → e.platform.stackTraces = false)
    (hx : p.tables.exec = Jvm.exec) (hb : c.code = code) (hr : meth.sig.returnType = some .boolean) (hml : c.maxLocals = 9) (hown : s.vm.findClass R_law = some m.cls) (hts : ∀ w ∈ lw_tbl, w.before #[Value.ref b] s = true) (hlocks : meth.locks = false) (hexc : ∀ q ∈ c.exceptionTable.toList, ∀ pc, covers q pc = false)
    (x : qExt) (sk : Nat → Option Nat) (sa : Nat → Nat) (zst : State → Prop) (hz : zst s) (hz1 : ∀ U, zst U → qst1 s.heap.size U) (hstay : zStay s.heap.size zst) (hext : zExtOK l (qT x sk) qTs (qNs ++ qXs) sa s.heap.size zst) (hsk : zSkOK (qT x sk) sa s.heap.size zst)
    {kS : Nat} (hkS : 0 < kS ∧ sa kS = b) {d n mc ms : Nat} {h' : zH} (hrun : zRun (qT x sk) (zX (qT x sk) d) qmL n (0, [(0, .retAddr kS)], [], []) (.inl (some (.int 1)), h', mc, ms)) (hd : d ≤ 500) (hmc : mc ≤ 601024) (hms : ms ≤ 7293034) :
    W p l e room_1 s m #[Value.ref b] below meth c s.heap [] 0 0 (lw_Z below #[Value.ref b] s) (entryFrame m ([Value.ref b] : List Value).toArray 9) := by
  have htsQ : ∀ w ∈ qTs ++ (qNs ++ qXs), w.before #[Value.ref b] s = true := by
    intro w hw
    rcases List.mem_append.mp hw with q | q
    · exact hts w (qTs_in w q)
    · exact qst0_Ns (hz1 s hz).1 w q _
  obtain ⟨D, tys, hty, hK⟩ := zknown (fun w hw => htsQ w (List.mem_append_left _ hw))
  have hCC := zsound (l := l) (D := D) (tys := tys) (sa := sa) (xn := qxn) (n0 := s.heap.size) (zst := zst) (T := qT x sk) (Ts := qTs) (Ns := qNs ++ qXs) (zcw := qcw) (qtabs x sk qXs) hty hstay hext (qthr l hfl x sk s.heap.size (fun U hU => (hz1 U hU).1)) (qhan l x sk hz1) hsk (fun U hU => qst0_Ns (hz1 U hU).1) d
  have hl := lv_entry ([.ref b]) (n := 9) (Nat.le_of_ble_eq_true rfl)
  have K := zbody (p := p) (l := l) (e := e) (R := room_1) (s := s) (m := m) (sargs := #[Value.ref b]) (below := below) (meth := meth) (c := c) (D := D) (tys := tys) (sa := sa) (xn := qxn) (n0 := s.heap.size) (zst := zst) (T := qT x sk) (Ts := qTs) (Ns := qNs ++ qXs) (zcw := qcw) (M := qmL) (C := "ClassReaderLaw") (d := d) (mc := mc) (ms := ms) (mi0 := 0) (CC := zX (qT x sk) d)
    hx hb hml hr hlocks (fun q => by cases q) rfl hown (fun h => absurd rfl h) (fun _ => hexc) (qtabs x sk qXs) hty hstay hext (qthr l hfl x sk s.heap.size (fun U hU => (hz1 U hU).1)) (qhan l x sk hz1) hsk htsQ hz (Nat.le_refl _) hK
    (by show d + 31 ≤ 2048; omega) (by decide) (by show d * 100 + 700 ≤ 84000; omega) (by decide) hmc hms hCC []
    n _ _ hrun [] 0 0 s.heap [] [] (lv_args 0 [.ref b]) _ [] ⟨rfl, rfl, fun i e h => by simp at h⟩ (fun k q h => by simp at h) ⟨fun i j p q h => by simp at h, fun k q h => by simp at h⟩ va_S.rf ⟨rfl, ⟨b, rfl, fun _ => hkS.2.symm⟩, True.intro⟩ hl True.intro (Nat.zero_add _) (Nat.zero_add _)
  rw [lg_entry_eq]
  refine W.mono (fun t ht => ?_) K
  obtain ⟨o, h1, h2, ⟨⟨xs, -, hout⟩, -⟩, LL, ⟨hW, hsame⟩, hL⟩ := ht
  obtain ⟨cv, rfl, hcv⟩ := hout
  cases (show cv = .int 1 from hcv)
  exact ⟨_, h1, h2, rfl, ⟨_, rfl⟩, hW, (zforget hsame hL).mono hmc hms⟩
end
section
/-! what was there before: statics, objects' fields, arrays, String constants -/
/-- the address in place of the number -/
def zcv (sa : Nat → Nat) (v : Value) : Value := match v with
  | .retAddr k => .ref (sa k)
  | w => w
def zgood (v : Value) : Bool := match v with
  | .ref _ => false
  | _ => true
theorem zcv_ok {sa : Nat → Nat} {ad : List Nat} {v : Value} (h : zgood v = true) : zV sa ad v (zcv sa v) := by
  cases v <;> simp [zgood, zcv, zV] at h ⊢
/-- statics by numbers (class, name, type, value); by class and pool number a static's number; fields by numbers; by class and pool number a field's number; an object's field; arrays; by class and pool number a String's object -/
abbrev zEx : Type := (Nat → Option (String × String × String × Value)) × (Nat → Nat → Option Nat) × (Nat → Option (String × String × String)) × (Nat → Nat → Option Nat) × (Nat → Nat → Option Value) × (Nat → Option (FieldType × Nat × (Nat → Value))) × (Nat → Nat → Option Nat)
def zExS (X : zEx) : Nat → Option (String × String × String × Value) := X.1
def zExSl (X : zEx) : Nat → Nat → Option Nat := X.2.1
def zExF (X : zEx) : Nat → Option (String × String × String) := X.2.2.1
def zExFl (X : zEx) : Nat → Nat → Option Nat := X.2.2.2.1
def zExO (X : zEx) : Nat → Nat → Option Value := X.2.2.2.2.1
def zExA (X : zEx) : Nat → Option (FieldType × Nat × (Nat → Value)) := X.2.2.2.2.2.1
def zExR (X : zEx) : Nat → Nat → Option Nat := X.2.2.2.2.2.2
def zaty (i : Instr) (ty : FieldType) : Bool := match i, ty with
  | .iaload, .int => true
  | .baload, .byte => true
  | .baload, .boolean => true
  | .caload, .char => true
  | .laload, .long => true
  | .aaload, .object _ => true
  | _, _ => false
def zaget (X : zEx) (i : Instr) (st : List Value) : Option (List Value) := match st with
  | .int j :: .retAddr q :: r => match zExA X q with
    | some (ty, n, f) => if zaty i ty = true ∧ ¬ (j < 0) ∧ j.toNatClampNeg < n ∧ zgood (f j.toNatClampNeg) = true ∧ zlen i = 1 then some (f j.toNatClampNeg :: r) else none
    | none => none
  | _ => none
def zext (X : zEx) (k : Nat) (i : Instr) (st : List Value) : Option (List Value) := match i with
  | .ldc ix => match zExR X k ix with
    | some q => if 0 < q then some (.retAddr q :: st) else none
    | none => none
  | .getstatic ix => match zExSl X k ix with
    | some j => match zExS X j with
      | some q => if zgood q.2.2.2 = true then some (q.2.2.2 :: st) else none
      | none => none
    | none => none
  | .getfield ix => match st with
    | .retAddr o :: r => match zExFl X k ix with
      | some j => match zExO X o j with
        | some v => if 0 < o ∧ zgood v = true then some (v :: r) else none
        | none => none
      | none => none
    | _ => none
  | .arraylength => match st with
    | .retAddr q :: r => match zExA X q with
      | some (_, n, _) => if 0 < q then some (.int (Int32.ofNat n) :: r) else none
      | none => none
    | _ => none
  | i => match st with
    | .int _ :: .retAddr q :: _ => if 0 < q then zaget X i st else none
    | _ => none
def zFok (Ws : List Jvm.Cond) (own : String) (ix : Nat) (o n d : String) (U : State) (a : Array Value) : Prop := (Jvm.Cond.fieldLink own ix o n d).before a U = true ∨ ∃ host, (Jvm.Cond.fieldLinkNest own ix o n d host).before a U = true
/-- the old world's facts at a state -/
def zOldOK (X : zEx) (T : zTb) (sa : Nat → Nat) (A : Nat → Prop) (U : State) : Prop :=
  (∀ j q, zExS X j = some q → va_Z q.1 q.2.1 q.2.2.1 (zcv sa q.2.2.2) A U U.heap) ∧
  (∀ o j v f, zExO X o j = some v → zExF X j = some f → va_OF f.1 f.2.1 f.2.2 (zcv sa v) (sa o) A U U.heap) ∧
  (∀ q ty n f, zExA X q = some (ty, n, f) → va_T ty (sa q) n (fun j => zcv sa (f j)) A U U.heap) ∧
  (∀ k ix q C, zExR X k ix = some q → zTcn T k = some C → ∃ tx, vk_R C ix tx (sa q) U)
/-- the links that reach it -/
def zOldL (X : zEx) (T : zTb) (U : State) (a : Array Value) : Prop :=
  (∀ k ix j C q, zTcn T k = some C → zExSl X k ix = some j → zExS X j = some q → zFok [] C ix q.1 q.2.1 q.2.2.1 U a) ∧
  (∀ k ix j C, zTcn T k = some C → zExFl X k ix = some j → ∃ f, zExF X j = some f ∧ zFok [] C ix f.1 f.2.1 f.2.2 U a)
theorem zOldOK.stay {X : zEx} {T : zTb} {sa : Nat → Nat} {n0 : Nat} {s U : State} (h : zOldOK X T sa (fun q : Nat => n0 ≤ q) s) (hW : s.WarmedH U.vm) (hq : ∀ q : Nat, q < n0 → U.heap[q]? = s.heap[q]?) : zOldOK X T sa (fun q : Nat => n0 ≤ q) U := by
  have hq' : ∀ a : Nat, a < s.heap.size → ¬ (fun q : Nat => n0 ≤ q) a → U.heap[a]? = s.heap[a]? := fun a _ ha => hq a (Nat.lt_of_not_le ha)
  obtain ⟨h1, h2, h3, h4⟩ := h
  refine ⟨fun j q e => (va_Z.moved hW.alike (h1 j q e)).kept hq', fun o j v f e1 e2 => (va_OF.moved hW.alike (h2 o j v f e1 e2)).kept hq', fun q ty n f e => (va_T.moved hW.alike (h3 q ty n f e)).kept hq', fun k ix q C e1 e2 => ?_⟩
  obtain ⟨tx, h⟩ := h4 k ix q C e1 e2
  exact ⟨tx, vk_R.warm hW h⟩
set_option maxHeartbeats 4000000 in
theorem zext_ok {l : Launch} {T : zTb} {Ts Ns : List Jvm.Cond} {sa : Nat → Nat} {n0 : Nat} {zst : State → Prop} {X : zEx} (hX : zText T = zext X) (h1 : ∀ s, zst s → zOldOK X T sa (fun q : Nat => n0 ≤ q) s)
    (h2 : ∀ s a, zst s → (∀ w ∈ Ts ++ Ns, w.before a s = true) → zOldL X T s a) : zExtOK l T Ts Ns sa n0 zst := by
  intro p e R s m sargs below meth c H locs cells slots Q cc pc len k nL C ls ad st cs st' i hx hb hml hsize hC hown hts hz hn0 hS hRf hRl hRc hRs hdg hlen ht hF kk
  obtain ⟨o1, o2, o3, o4⟩ := h1 s hz
  obtain ⟨l1, l2⟩ := h2 s sargs hz hts
  rw [hX] at ht
  have hA : ∀ (j : Int32) (q : Nat) (r : List Value), st = .int j :: .retAddr q :: r → 0 < q → zaget X i st = some st' → W p l e R s m sargs below meth c H locs cells slots Q (F0 m pc ls cs) := by
    intro j q r e0 hq ha
    subst e0
    unfold zaget at ha
    dsimp only at ha
    split at ha
    · next ty n f hA =>
      split at ha
      · next hc =>
        cases ha
        obtain ⟨c1, c2, c3, c4, c5⟩ := hc
        obtain ⟨cv, cr, rfl, hv, hF1⟩ := zF_c hF
        obtain ⟨cw, cr2, rfl, hw, hF2⟩ := zF_c hF1
        cases (show cv = .int j from hv)
        obtain ⟨b, rfl, hbq⟩ := id hw
        rw [hbq hq]
        have hT := o3 q ty n f hA
        have hin : vp_in j n := fun z => by
          rcases z with z | z
          · exact c2 z
          · omega
        have hk := kk (zcv sa (f j.toNatClampNeg) :: cr2) ⟨zcv_ok c4, hF2⟩
        rw [hlen, c5] at hk hdg
        unfold zaty at c1
        split at c1
        · exact va_ti hx hb hT hS hin rfl hdg hk
        · exact va_tb hx hb hT hS hin rfl hdg hk
        · exact va_tz hx hb hT hS hin rfl hdg hk
        · exact va_tc hx hb hT hS hin rfl hdg hk
        · exact va_tl hx hb hT hS hin rfl hdg hk
        · exact vb_tq hx hb hT hS hin rfl hdg hk
        · cases c1
      · cases ha
    · cases ha
  unfold zext at ht
  split at ht
  · next ix =>
    have e0 : len = 2 := hlen
    subst e0
    split at ht
    · next q hq =>
      split at ht
      · next h0 =>
        cases ht
        obtain ⟨tx, hR⟩ := o4 k ix q C hq hC
        exact va_ldcS hx hb hown hR hdg (kk _ ⟨⟨_, rfl, fun _ => rfl⟩, hF⟩)
      · cases ht
    · cases ht
  · next ix =>
    have e0 : len = 3 := hlen
    subst e0
    split at ht
    · next j hj =>
      split at ht
      · next q hq =>
        split at ht
        · next hg =>
          cases ht
          rcases l1 k ix j C q hC hj hq with w | ⟨host, w⟩
          · exact va_gets hx hb (o1 j q hq) hS hown w (fun x h => h) hdg (kk _ ⟨zcv_ok hg, hF⟩)
          · exact va_getsN hx hb (o1 j q hq) hS hown w (fun x h => h) hdg (kk _ ⟨zcv_ok hg, hF⟩)
        · cases ht
      · cases ht
    · cases ht
  · next ix =>
    have e0 : len = 3 := hlen
    subst e0
    split at ht
    · next o r =>
      split at ht
      · next j hj =>
        split at ht
        · next v hv =>
          split at ht
          · next hc =>
            cases ht
            obtain ⟨f, hf, w⟩ := l2 k ix j C hC hj
            have hO := o2 o j v f hv hf
            obtain ⟨cw, cr, rfl, hw, hF2⟩ := zF_c hF
            obtain ⟨b, rfl, hbq⟩ := id hw
            rw [hbq hc.1]
            have hk := kk (zcv sa v :: cr) ⟨zcv_ok hc.2, hF2⟩
            rcases w with w | ⟨host, w⟩
            · exact vk_getf hx hb hO hS hown w (fun x h => h) hdg hk
            · obtain ⟨cf, k9, fi, f9, cell, g1, g2, g3, g4, g5, g6⟩ := hO.kept hS.2.1
              exact va_Wgetf hx hb hown w g1 g2 g3 g4 g5 rfl rfl hdg hk
          · cases ht
        · cases ht
      · cases ht
    · cases ht
  · split at ht
    · next q r =>
      have e0 : len = 1 := hlen
      subst e0
      split at ht
      · next n hq =>
        split at ht
        · next h0 =>
          cases ht
          obtain ⟨cw, cr, rfl, hw, hF2⟩ := zF_c hF
          obtain ⟨b, rfl, hbq⟩ := id hw
          rw [hbq h0]
          exact va_tlen hx hb (o3 q _ _ _ hq) hS rfl hdg (kk _ ⟨rfl, hF2⟩)
        · cases ht
      · cases ht
    · cases ht
  · split at ht
    · next j q r =>
      split at ht
      · next h0 => exact hA j q r rfl h0 ht
      · cases ht
    · cases ht
end
section
/-! Enum.ordinal, called through a class that inherits it; the old world with it -/
def ordN : MethodName := ⟨"java/lang/Enum", "ordinal", "()I"⟩
def ordB : ByteArray := ⟨#[0x2a, 0xb4, 0x00, 0x07, 0xac]⟩
def ordWs : List Jvm.Cond := [.code ordN ordB 1 (some .int), .fieldLink "java/lang/Enum" 7 "java/lang/Enum" "ordinal" "I"]
def ordRm : Room := { frames := 1, cells := 0, slots := 0, locals := 20 }
set_option maxHeartbeats 1000000 in
theorem zordMet (l : Launch) (n0 a0 : Nat) (v : Int32) (free : Nat → Prop) : zMet l ordN ordWs ordRm (fun a U => a = [Value.ref a0].toArray ∧ va_OF "java/lang/Enum" "ordinal" "I" (.int v) a0 (fun q : Nat => n0 ≤ q) U U.heap) (fun _ st oc t => oc = .returned (some (.int v)) ∧ t.heap = st.heap) 0 0 free := by
  refine MetFree.of_bodyS (code := ordB) (maxLocals := 1) (ret := some .int) (by decide) ?_ ?_
  · intro args s m hp hn
    obtain ⟨meth, c, h1, h2, h3, h4, h5, h6, -⟩ := Cond.code_spec hn (atoms_spec (ws := ordWs) hp _ List.mem_cons_self)
    exact ⟨meth, c, h1, h2, h3, h4, h5, h6⟩
  · intro p e s m args below meth c s₁ B hml hP _
    have hh0 : s₁.heap = s.heap := by rw [B.state]; rfl
    obtain ⟨rfl, hO⟩ := hP
    have hts : ∀ w ∈ ordWs, w.before [Value.ref a0].toArray s = true := atoms_spec (ws := ordWs) B.pre
    have X₀ := Stand.of_body B
    have hd : ∀ q ∈ c.exceptionTable.toList, ∀ pc, covers q pc = false := by
      intro q hq pc
      obtain ⟨meth', c', h1, h2, -, -, -, -, h7, -⟩ := Cond.code_spec B.named (hts _ List.mem_cons_self)
      cases h1.symm.trans B.method
      cases h2.symm.trans X₀.code
      have := h7
      rw [Array.isEmpty_iff] at this
      rw [this] at hq
      cases hq
    have hl := lv_entry ([.ref a0] : List Value) (n := 1) (Nat.le_refl _)
    have K2 : W p l e (headSpec ordWs ordRm).room s m [Value.ref a0].toArray below meth c s.heap [] 0 0 (zMQ below (fun _ st oc t => oc = .returned (some (.int v)) ∧ t.heap = st.heap) [Value.ref a0].toArray s 0 0 free) (entryFrame m [Value.ref a0].toArray 1) := by
      rw [lg_entry_eq]
      refine lv_aload_n B.exec B.bytes (k := 0) (i := 0) (x := a0) rfl rfl (lv_at hl 0 rfl) ?_
      refine vk_getf B.exec B.bytes hO va_S.rf (findClass_of_methodNamed B.named) (hts (.fieldLink "java/lang/Enum" 7 "java/lang/Enum" "ordinal" "I") (by simp [ordWs])) (fun x h => h) rfl ?_
      exact W.mono (fun t ht => zMQ.of ht) (W.iret B.exec B.bytes B.returns (fun t ht hW => ⟨rfl, ht⟩) (fun _ h => by cases h) rfl B.notSynchronized)
    obtain ⟨t, a1, o, b1, b2, b3, b4⟩ := K2 s₁ hh0 X₀
    exact ⟨t, o, a1, b1, b2, b3, b4⟩
section ZU
variable {p : Program} {l : Launch} {e : Env} {R : Room} {s : State} {m : MethodId} {sargs : Array Value} {below : List Frame} {meth : Method} {c : Code} {H : Heap} {locs : List Loc} {cells slots : Nat} {Q : State → Prop}
variable {x y : MethodName} {ws : List Jvm.Cond} {rm : Room} {Pc : Array Value → State → Prop} {Qc : Array Value → State → Outcome → State → Prop} {mc ms maxL pc ix : Nat} {free : Addr → Prop} {cc : ByteArray} {own owner : String} {ls : Array Slot} {As rest : List Value} {b : Nat}
theorem zcallU (hx : p.tables.exec = Jvm.exec) (hb : c.code = cc) (hown : s.vm.findClass own = some m.cls) (hM : zMet l y ws rm Pc Qc mc ms free) (hlk : (Jvm.Cond.methodLink own ix x).before sargs s = true) (hsame : (Jvm.Cond.sameMethod x.cls owner x.name x.desc).before sargs s = true) (hd0 : va_Decl s ⟨owner, x.name, x.desc⟩) (howner : owner ≠ "java/lang/invoke/MethodHandle" ∧ owner ≠ "java/lang/invoke/VarHandle")
    (hinst : (Jvm.Cond.instanceMethod y).before sargs s = true) {C0 : String} (hsel : (Jvm.Cond.selects C0 x y).before sargs s = true)
    {cellB : Cell} (hcell : H[b]? = some cellB) (hobj : cellB.vm.isStatics = false) (hcls : s.vm.findClass C0 = some cellB.cls)
    {nL : Nat} (hml : c.maxLocals = nL) (hsize : ls.size = nL) (hdg : decode cc pc = .ok (.invokevirtual ix, 3)) (hlen : (parseMethodDescriptor x.desc).map (fun d => d.parameters.length) = some As.length)
    (hst : (rest.map fun v => v.category).sum ≤ 16) (hcode : zCode y maxL s sargs) (hws : ∀ w ∈ ws, ∀ (a' : Array Value) (U : State), s.WarmedH U.vm → w.before a' U = true) (hini : (Jvm.Cond.initialized y.cls).before sargs s = true)
    (hfr : rm.frames + 1 ≤ R.frames) (hlo : 16 + (maxL + 11) + rm.locals ≤ R.locals) (hrc : rm.cells = mc) (hrs : rm.slots = ms) (hc : cells + mc ≤ R.cells) (hs : slots + ms ≤ R.slots)
    (hP : ∀ U : State, U.heap = H → s.WarmedH U.vm → Pc (Value.ref b :: As).toArray U)
    (kr : ∀ (v : Option Value) (st t : State) (L : List Loc), st.heap = H → s.WarmedH st.vm → st.WarmedH t.vm → Qc (Value.ref b :: As).toArray st (.returned v) t → (∀ q ∈ L, free q.base) → W p l e R s m sargs below meth c t.heap (locs ++ L) (cells + mc) (slots + ms) Q (F0 m (pc + 3) ls (v.toList ++ rest)))
    (kt : ∀ (z : Nat) (st t : State) (L : List Loc), st.heap = H → s.WarmedH st.vm → st.WarmedH t.vm → Qc (Value.ref b :: As).toArray st (.threw z) t → (∀ q ∈ L, free q.base) → zWT p l e R s m sargs below meth c t.heap (locs ++ L) (cells + mc) (slots + ms) Q z (F0 m pc ls rest)) :
    W p l e R s m sargs below meth c H locs cells slots Q (F0 m pc ls (As.reverse ++ .ref b :: rest)) := by
  intro T hT X
  obtain ⟨r0, r, hn, hrm, hstR, hsigR⟩ := hd0
  obtain ⟨cn, ck, r1, hcn, hck, hni, hf, hn1⟩ := Cond.sameMethod_found hsame
  cases hn.symm.trans hn1
  obtain ⟨mk, methM, hnamed, hmethM, -, habM⟩ := Cond.instanceMethod_spec hinst
  obtain ⟨c2, r2, m2, q1, q2, q3, q4, kP, hkP, hkPi⟩ := Cond.selects_spec hsel
  cases hcls.symm.trans q1
  cases hf.symm.trans q2
  cases hnamed.symm.trans q3
  have hselP : selectMethod e.platform s.vm cellB.cls r0 = .method mk := by rw [Launch.admits_selectMethod X.admits]; exact q4
  have hl : As.length = r.sig.parameters.length := by rw [hsigR] at hlen; exact (Option.some.inj hlen).symm
  obtain ⟨vm₁, X₁, hstep₁⟩ := X.invokevirtualUp hx hown hlk hsame howner hn hrm hstR (a := b) (cell := cellB) (by rw [hT]; exact hcell)
    (fun z h => by rw [h] at hobj; cases hobj) hselP hmethM habM hkP hkPi (g := F0 m pc ls (As.reverse ++ .ref b :: rest)) rfl (argsL := As) (rest := rest) hl rfl (by rw [hb]; exact hdg)
  obtain ⟨t, a1, b1⟩ := zgo hM hb X₁ hT hml hsize hdg hst hcode hnamed hws hini hfr hlo hrc hrs hc hs hP kr kt
  exact ⟨t, hstep₁ _ fun acts => by rw [doInvoke_state]; exact a1, b1⟩
end ZU
end
section
/-! the old world, with ordinal -/
def zextO (X : zEx) (ol : Nat → Nat → Bool) (ov : Nat → Option Int32) (k : Nat) (i : Instr) (st : List Value) : Option (List Value) := match i with
  | .invokevirtual ix => match st with
    | .retAddr o :: r => match ov o with
      | some v => if ol k ix = true ∧ 0 < o ∧ zcat r ≤ 16 then some (.int v :: r) else none
      | none => none
    | _ => none
  | i => zext X k i st
def qoWs (E C : String) (ix : Nat) : List Jvm.Cond := [.methodLink C ix ⟨E, "ordinal", "()I"⟩, .sameMethod E "java/lang/Enum" "ordinal" "()I", .selects E ⟨E, "ordinal", "()I"⟩ ordN, .instanceMethod ordN, .initialized "java/lang/Enum"] ++ ordWs
def zOldV (E : String) (ov : Nat → Option Int32) (sa : Nat → Nat) (A : Nat → Prop) (U : State) : Prop := ∀ o v, ov o = some v → va_O E (sa o) A U U.heap ∧ va_OF "java/lang/Enum" "ordinal" "I" (.int v) (sa o) A U U.heap
theorem zOldV.stay {E : String} {ov : Nat → Option Int32} {sa : Nat → Nat} {n0 : Nat} {s U : State} (h : zOldV E ov sa (fun q : Nat => n0 ≤ q) s) (hW : s.WarmedH U.vm) (hq : ∀ q : Nat, q < n0 → U.heap[q]? = s.heap[q]?) : zOldV E ov sa (fun q : Nat => n0 ≤ q) U := by
  have hq' : ∀ a : Nat, a < s.heap.size → ¬ (fun q : Nat => n0 ≤ q) a → U.heap[a]? = s.heap[a]? := fun a _ ha => hq a (Nat.lt_of_not_le ha)
  exact fun o v e => ⟨(va_O.moved hW.alike (h o v e).1).kept hq', (va_OF.moved hW.alike (h o v e).2).kept hq'⟩
theorem ordWs_good : ∀ w ∈ ordWs, goodWord w = true := by
  intro w hw
  exact List.all_eq_true.mp (show ordWs.all goodWord = true by decide +kernel) w hw
set_option maxHeartbeats 4000000 in
theorem zextO_ok {l : Launch} {T : zTb} {Ts Ns : List Jvm.Cond} {sa : Nat → Nat} {n0 : Nat} {zst : State → Prop} {X : zEx} {ol : Nat → Nat → Bool} {ov : Nat → Option Int32} {E : String} (hX : zText T = zextO X ol ov) (h1 : ∀ s, zst s → zOldOK X T sa (fun q : Nat => n0 ≤ q) s) (h3 : ∀ s, zst s → zOldV E ov sa (fun q : Nat => n0 ≤ q) s)
    (h2 : ∀ s a, zst s → (∀ w ∈ Ts ++ Ns, w.before a s = true) → zOldL X T s a) (h4 : ∀ s a, zst s → (∀ w ∈ Ts ++ Ns, w.before a s = true) → ∀ k ix C, ol k ix = true → zTcn T k = some C → ∀ w ∈ qoWs E C ix, w.before a s = true) : zExtOK l T Ts Ns sa n0 zst := by
  intro p e R s m sargs below meth c H locs cells slots Q cc pc len k nL C ls ad st cs st' i hx hb hml hsize hC hown hts hz hn0 hS hRf hRl hRc hRs hdg hlen ht hF kk
  rw [hX] at ht
  unfold zextO at ht
  split at ht
  · next ix =>
    have e0 : len = 3 := hlen
    subst e0
    split at ht
    · next o r =>
      split at ht
      · next v hv =>
        split at ht
        · next hc =>
          cases ht
          obtain ⟨c1, c2, c3⟩ := hc
          have hw := h4 s sargs hz hts k ix C c1 hC
          obtain ⟨hO, hF9⟩ := h3 s hz o v hv
          obtain ⟨cw, cr, rfl, hw9, hF2⟩ := zF_c hF
          obtain ⟨b, rfl, hbq⟩ := id hw9
          rw [hbq c2]
          obtain ⟨cellB, g1, g2, g3, -⟩ := hO.kept hS.2.1
          have hcat : (cr.map fun v => v.category).sum ≤ 16 := by rw [hF2.cat]; exact c3
          have hordw : ∀ w ∈ ordWs, w.before sargs s = true := fun w h => hw w (by unfold qoWs; exact List.mem_append_right _ h)
          have w1 : (Jvm.Cond.methodLink C ix ⟨E, "ordinal", "()I"⟩).before sargs s = true := hw _ (by simp [qoWs])
          have w2 : (Jvm.Cond.sameMethod E "java/lang/Enum" "ordinal" "()I").before sargs s = true := hw _ (by simp [qoWs])
          have w3 : (Jvm.Cond.selects E ⟨E, "ordinal", "()I"⟩ ordN).before sargs s = true := hw _ (by simp [qoWs])
          have w4 : (Jvm.Cond.instanceMethod ordN).before sargs s = true := hw _ (by simp [qoWs])
          have w5 : (Jvm.Cond.initialized "java/lang/Enum").before sargs s = true := hw _ (by simp [qoWs])
          have w6 : (Jvm.Cond.code ordN ordB 1 (some .int)).before sargs s = true := hordw _ (by simp [ordWs])
          refine zcallU (As := []) (rest := cr) hx hb hown (zordMet l n0 (sa o) v (fun _ => False)) w1 w2 (va_Decl.of w4 w6) ⟨by decide, by decide⟩ w4 w3 g1 g2 g3 hml hsize hdg (show (parseMethodDescriptor "()I").map (fun d => d.parameters.length) = some 0 by decide +kernel) hcat ⟨ordB, some .int, Or.inl w6⟩
            (fun w hw' a' U hU => word_at hU (good_of_word (ordWs_good w hw')) (hordw w hw')) w5 (by show 1 + 1 ≤ R.frames; omega) (by show 16 + (1 + 11) + 20 ≤ R.locals; omega) rfl rfl ?_ ?_
            (fun U hU hW => ⟨rfl, ?_⟩) (fun v' st t L e1 e2 e3 e4 e5 => ?_) (fun z st t L e1 e2 e3 e4 e5 => ?_)
          · exact hRc
          · exact hRs
          · rw [hU]
            exact (va_OF.moved hW.alike hF9).kept hS.2.1
          · obtain ⟨f1, f2⟩ := e4
            cases f1
            have eL : L = [] := by
              cases L with
              | nil => rfl
              | cons q L => exact (e5 q List.mem_cons_self).elim
            subst eL
            rw [f2, e1, List.append_nil]
            exact kk _ ⟨rfl, hF2⟩
          · cases e4.1
        · cases ht
      · cases ht
    · cases ht
  · exact zext_ok (X := X) (T := (T.1, T.2.1, T.2.2.1, T.2.2.2.1, T.2.2.2.2.1, T.2.2.2.2.2.1, T.2.2.2.2.2.2.1, T.2.2.2.2.2.2.2.1, T.2.2.2.2.2.2.2.2.1, T.2.2.2.2.2.2.2.2.2.1, zext X)) rfl h1 h2 hx hb hml hsize hC hown hts hz hn0 hS hRf hRl hRc hRs hdg hlen ht hF kk
end
section
/-! the old world of this class: printed by a program of mine (wip/whole/gen_old.py) out of what TURN laid -/
/-- Strings: class, pool number, bytes -/
def qStr : List (String × Nat × List Nat) := [("ClassReader$Grammar", 25, [60, 105, 110, 105, 116, 62]), ("ClassReader$Grammar", 30, [60, 99, 108, 105, 110, 105, 116, 62]), ("ClassReader$Grammar", 39, [86]), ("ClassReader$Attributes", 151, [76, 106, 97, 118, 97, 47, 108, 97, 110, 103, 47, 83, 116, 114, 105, 110, 103, 59]), ("ClassReader$Shape", 167, [40, 41, 86]), ("ClassReader$Words", 97, [98, 121, 116, 101]), ("ClassReader$Words", 99, [99, 104, 97, 114]), ("ClassReader$Words", 101, [100, 111, 117, 98, 108, 101]), ("ClassReader$Words", 103, [102, 108, 111, 97, 116]), ("ClassReader$Words", 105, [105, 110, 116]), ("ClassReader$Words", 107, [108, 111, 110, 103]), ("ClassReader$Words", 109, [115, 104, 111, 114, 116]), ("ClassReader$Words", 111, [98, 111, 111, 108, 101, 97, 110]), ("ClassReader$Words", 113, [118, 111, 105, 100]), ("ClassReader$Words", 95, [91, 93]), ("ClassReader$Known", 68, []), ("ClassReader$Known", 74, [67, 111, 110, 115, 116, 97, 110, 116, 86, 97, 108, 117, 101]), ("ClassReader$Known", 77, [67, 111, 100, 101]), ("ClassReader$Known", 80, [69, 120, 99, 101, 112, 116, 105, 111, 110, 115]), ("ClassReader$Known", 83, [73, 110, 110, 101, 114, 67, 108, 97, 115, 115, 101, 115]), ("ClassReader$Known", 86, [69, 110, 99, 108, 111, 115, 105, 110, 103, 77, 101, 116, 104, 111, 100]), ("ClassReader$Known", 89, [78, 101, 115, 116, 72, 111, 115, 116]), ("ClassReader$Known", 92, [78, 101, 115, 116, 77, 101, 109, 98, 101, 114, 115]), ("ClassReader$Known", 95, [80, 101, 114, 109, 105, 116, 116, 101, 100, 83, 117, 98, 99, 108, 97, 115, 115, 101, 115]), ("ClassReader$Known", 98, [66, 111, 111, 116, 115, 116, 114, 97, 112, 77, 101, 116, 104, 111, 100, 115])]
/-- Known's constants, in ALL's order: name, its word's number among the Strings, place, bit, rivals, ordinal -/
def qKn : List (String × Nat × Nat × Nat × Nat × Nat) := [("OTHER", 15, 0, 0, 0, 0), ("CONSTANT_VALUE", 16, 1, 1, 1, 1), ("CODE", 17, 2, 2, 2, 2), ("EXCEPTIONS", 18, 2, 4, 4, 3), ("INNER_CLASSES", 19, 3, 8, 8, 4), ("ENCLOSING_METHOD", 20, 3, 16, 16, 5), ("NEST_HOST", 21, 3, 32, 96, 6), ("NEST_MEMBERS", 22, 3, 64, 96, 7), ("PERMITTED_SUBCLASSES", 23, 3, 128, 128, 8), ("BOOTSTRAP_METHODS", 24, 3, 256, 256, 9)]
def qSw : List Nat := [0, 1, 2, 3, 4, 5, 6, 7, 8, 9]
def kN : String := "ClassReader$Known"
def kD : String := "LClassReader$Known;"
def qtS (e : String × Nat × List Nat) : Term := .string e.1 e.2.1
def qtV (e : String × Nat × List Nat) : Term := .field (qtS e) "java/lang/String" "value" "[B"
def qtK (n : String) : Term := .static "ClassReader$Known" n "LClassReader$Known;"
def qtA : Term := .static "ClassReader$Attributes" "ALL" "[LClassReader$Known;"
def qtW : Term := .static "ClassReader$1" "$SwitchMap$ClassReader$Known" "[I"
def qwS (e : String × Nat × List Nat) : List Jvm.Cond := [.exactly (qtS e) "java/lang/String", .eq (.field (qtS e) "java/lang/String" "coder" "B") (.int 0), .arrayOf (qtV e) .byte, .eq (.length (qtV e)) (.int (Int32.ofNat e.2.2.length))] ++ (List.range e.2.2.length).map (fun j => .eq (.elem (qtV e) (.int (Int32.ofNat j))) (.int (Int32.ofNat (e.2.2.getD j 0))))
def qsn (j : Nat) : Term := match qStr[j]? with
  | some e => qtS e
  | none => .int 0
def qwKn (e : String × Nat × Nat × Nat × Nat × Nat) : List Jvm.Cond := [.exactly (qtK e.1) "ClassReader$Known", .eq (.field (qtK e.1) "java/lang/Enum" "ordinal" "I") (.int (Int32.ofNat e.2.2.2.2.2)), .eq (.field (qtK e.1) "ClassReader$Known" "word" "Ljava/lang/String;") (qsn e.2.1), .eq (.field (qtK e.1) "ClassReader$Known" "place" "I") (.int (Int32.ofNat e.2.2.1)), .eq (.field (qtK e.1) "ClassReader$Known" "bit" "I") (.int (Int32.ofNat e.2.2.2.1)), .eq (.field (qtK e.1) "ClassReader$Known" "rivals" "I") (.int (Int32.ofNat e.2.2.2.2.1))]
def qwA : List Jvm.Cond := [.arrayOf qtA (.object "ClassReader$Known"), .eq (.length qtA) (.int (Int32.ofNat qKn.length))] ++ (List.range qKn.length).map (fun j => .eq (.elem qtA (.int (Int32.ofNat j))) (qtK (qKn.getD j ("", 0, 0, 0, 0, 0)).1))
def qwW : List Jvm.Cond := [.arrayOf qtW .int, .eq (.length qtW) (.int (Int32.ofNat qSw.length))] ++ (List.range qSw.length).map (fun j => .eq (.elem qtW (.int (Int32.ofNat j))) (.int (Int32.ofNat (qSw.getD j 0))))
def qwZ : List Jvm.Cond := [.eq (.static "java/lang/String" "COMPACT_STRINGS" "Z") (.int 1), .isRef (.static "jdk/internal/util/Preconditions" "SIOOBE_FORMATTER" "Ljava/util/function/BiFunction;"), .isRef (.static "java/lang/Throwable" "UNASSIGNED_STACK" "[Ljava/lang/StackTraceElement;"), .isRef (.static "java/lang/Throwable" "SUPPRESSED_SENTINEL" "Ljava/util/List;")]
/-- what the Statement gives of the start -/
def qN : List Jvm.Cond := flatC (Jvm.Cond.and given_1 narrow_1)
theorem qN_of {args : Array Value} {s : State} (h : (Jvm.Cond.and given_1 narrow_1).before args s = true) : ∀ w ∈ qN, w.before args s = true := flat_of_before _ h
theorem qN_in {ws : List Jvm.Cond} {ps : List Nat} (h : ws = ps.filterMap (fun k => qN[k]?)) : ∀ w ∈ ws, w ∈ qN := by
  intro w hw
  rw [h] at hw
  obtain ⟨k, -, hk⟩ := List.mem_filterMap.mp hw
  exact List.mem_of_getElem? hk
set_option maxRecDepth 100000 in
set_option maxHeartbeats 4000000 in
theorem qS_0 : qwS ("ClassReader$Grammar", 25, [60, 105, 110, 105, 116, 62]) = ([452, 453, 454, 455, 456, 457, 458, 459, 460, 461] : List Nat).filterMap (fun k => qN[k]?) := rfl
set_option maxRecDepth 100000 in
set_option maxHeartbeats 4000000 in
theorem qS_1 : qwS ("ClassReader$Grammar", 30, [60, 99, 108, 105, 110, 105, 116, 62]) = ([462, 463, 464, 465, 466, 467, 468, 469, 470, 471, 472, 473] : List Nat).filterMap (fun k => qN[k]?) := rfl
set_option maxRecDepth 100000 in
set_option maxHeartbeats 4000000 in
theorem qS_2 : qwS ("ClassReader$Grammar", 39, [86]) = ([474, 475, 476, 477, 478] : List Nat).filterMap (fun k => qN[k]?) := rfl
set_option maxRecDepth 100000 in
set_option maxHeartbeats 4000000 in
theorem qS_3 : qwS ("ClassReader$Attributes", 151, [76, 106, 97, 118, 97, 47, 108, 97, 110, 103, 47, 83, 116, 114, 105, 110, 103, 59]) = ([479, 480, 481, 482, 483, 484, 485, 486, 487, 488, 489, 490, 491, 492, 493, 494, 495, 496, 497, 498, 499, 500] : List Nat).filterMap (fun k => qN[k]?) := rfl
set_option maxRecDepth 100000 in
set_option maxHeartbeats 4000000 in
theorem qS_4 : qwS ("ClassReader$Shape", 167, [40, 41, 86]) = ([501, 502, 503, 504, 505, 506, 507] : List Nat).filterMap (fun k => qN[k]?) := rfl
set_option maxRecDepth 100000 in
set_option maxHeartbeats 4000000 in
theorem qS_5 : qwS ("ClassReader$Words", 97, [98, 121, 116, 101]) = ([508, 509, 510, 511, 512, 513, 514, 515] : List Nat).filterMap (fun k => qN[k]?) := rfl
set_option maxRecDepth 100000 in
set_option maxHeartbeats 4000000 in
theorem qS_6 : qwS ("ClassReader$Words", 99, [99, 104, 97, 114]) = ([516, 517, 518, 519, 520, 521, 522, 523] : List Nat).filterMap (fun k => qN[k]?) := rfl
set_option maxRecDepth 100000 in
set_option maxHeartbeats 4000000 in
theorem qS_7 : qwS ("ClassReader$Words", 101, [100, 111, 117, 98, 108, 101]) = ([524, 525, 526, 527, 528, 529, 530, 531, 532, 533] : List Nat).filterMap (fun k => qN[k]?) := rfl
set_option maxRecDepth 100000 in
set_option maxHeartbeats 4000000 in
theorem qS_8 : qwS ("ClassReader$Words", 103, [102, 108, 111, 97, 116]) = ([534, 535, 536, 537, 538, 539, 540, 541, 542] : List Nat).filterMap (fun k => qN[k]?) := rfl
set_option maxRecDepth 100000 in
set_option maxHeartbeats 4000000 in
theorem qS_9 : qwS ("ClassReader$Words", 105, [105, 110, 116]) = ([543, 544, 545, 546, 547, 548, 549] : List Nat).filterMap (fun k => qN[k]?) := rfl
set_option maxRecDepth 100000 in
set_option maxHeartbeats 4000000 in
theorem qS_10 : qwS ("ClassReader$Words", 107, [108, 111, 110, 103]) = ([550, 551, 552, 553, 554, 555, 556, 557] : List Nat).filterMap (fun k => qN[k]?) := rfl
set_option maxRecDepth 100000 in
set_option maxHeartbeats 4000000 in
theorem qS_11 : qwS ("ClassReader$Words", 109, [115, 104, 111, 114, 116]) = ([558, 559, 560, 561, 562, 563, 564, 565, 566] : List Nat).filterMap (fun k => qN[k]?) := rfl
set_option maxRecDepth 100000 in
set_option maxHeartbeats 4000000 in
theorem qS_12 : qwS ("ClassReader$Words", 111, [98, 111, 111, 108, 101, 97, 110]) = ([567, 568, 569, 570, 571, 572, 573, 574, 575, 576, 577] : List Nat).filterMap (fun k => qN[k]?) := rfl
set_option maxRecDepth 100000 in
set_option maxHeartbeats 4000000 in
theorem qS_13 : qwS ("ClassReader$Words", 113, [118, 111, 105, 100]) = ([578, 579, 580, 581, 582, 583, 584, 585] : List Nat).filterMap (fun k => qN[k]?) := rfl
set_option maxRecDepth 100000 in
set_option maxHeartbeats 4000000 in
theorem qS_14 : qwS ("ClassReader$Words", 95, [91, 93]) = ([586, 587, 588, 589, 590, 591] : List Nat).filterMap (fun k => qN[k]?) := rfl
set_option maxRecDepth 100000 in
set_option maxHeartbeats 4000000 in
theorem qS_15 : qwS ("ClassReader$Known", 68, []) = ([592, 593, 594, 595] : List Nat).filterMap (fun k => qN[k]?) := rfl
set_option maxRecDepth 100000 in
set_option maxHeartbeats 4000000 in
theorem qS_16 : qwS ("ClassReader$Known", 74, [67, 111, 110, 115, 116, 97, 110, 116, 86, 97, 108, 117, 101]) = ([596, 597, 598, 599, 600, 601, 602, 603, 604, 605, 606, 607, 608, 609, 610, 611, 612] : List Nat).filterMap (fun k => qN[k]?) := rfl
set_option maxRecDepth 100000 in
set_option maxHeartbeats 4000000 in
theorem qS_17 : qwS ("ClassReader$Known", 77, [67, 111, 100, 101]) = ([613, 614, 615, 616, 617, 618, 619, 620] : List Nat).filterMap (fun k => qN[k]?) := rfl
set_option maxRecDepth 100000 in
set_option maxHeartbeats 4000000 in
theorem qS_18 : qwS ("ClassReader$Known", 80, [69, 120, 99, 101, 112, 116, 105, 111, 110, 115]) = ([621, 622, 623, 624, 625, 626, 627, 628, 629, 630, 631, 632, 633, 634] : List Nat).filterMap (fun k => qN[k]?) := rfl
set_option maxRecDepth 100000 in
set_option maxHeartbeats 4000000 in
theorem qS_19 : qwS ("ClassReader$Known", 83, [73, 110, 110, 101, 114, 67, 108, 97, 115, 115, 101, 115]) = ([635, 636, 637, 638, 639, 640, 641, 642, 643, 644, 645, 646, 647, 648, 649, 650] : List Nat).filterMap (fun k => qN[k]?) := rfl
set_option maxRecDepth 100000 in
set_option maxHeartbeats 4000000 in
theorem qS_20 : qwS ("ClassReader$Known", 86, [69, 110, 99, 108, 111, 115, 105, 110, 103, 77, 101, 116, 104, 111, 100]) = ([651, 652, 653, 654, 655, 656, 657, 658, 659, 660, 661, 662, 663, 664, 665, 666, 667, 668, 669] : List Nat).filterMap (fun k => qN[k]?) := rfl
set_option maxRecDepth 100000 in
set_option maxHeartbeats 4000000 in
theorem qS_21 : qwS ("ClassReader$Known", 89, [78, 101, 115, 116, 72, 111, 115, 116]) = ([670, 671, 672, 673, 674, 675, 676, 677, 678, 679, 680, 681] : List Nat).filterMap (fun k => qN[k]?) := rfl
set_option maxRecDepth 100000 in
set_option maxHeartbeats 4000000 in
theorem qS_22 : qwS ("ClassReader$Known", 92, [78, 101, 115, 116, 77, 101, 109, 98, 101, 114, 115]) = ([682, 683, 684, 685, 686, 687, 688, 689, 690, 691, 692, 693, 694, 695, 696] : List Nat).filterMap (fun k => qN[k]?) := rfl
set_option maxRecDepth 100000 in
set_option maxHeartbeats 4000000 in
theorem qS_23 : qwS ("ClassReader$Known", 95, [80, 101, 114, 109, 105, 116, 116, 101, 100, 83, 117, 98, 99, 108, 97, 115, 115, 101, 115]) = ([697, 698, 699, 700, 701, 702, 703, 704, 705, 706, 707, 708, 709, 710, 711, 712, 713, 714, 715, 716, 717, 718, 719] : List Nat).filterMap (fun k => qN[k]?) := rfl
set_option maxRecDepth 100000 in
set_option maxHeartbeats 4000000 in
theorem qS_24 : qwS ("ClassReader$Known", 98, [66, 111, 111, 116, 115, 116, 114, 97, 112, 77, 101, 116, 104, 111, 100, 115]) = ([720, 721, 722, 723, 724, 725, 726, 727, 728, 729, 730, 731, 732, 733, 734, 735, 736, 737, 738, 739] : List Nat).filterMap (fun k => qN[k]?) := rfl
set_option maxRecDepth 100000 in
set_option maxHeartbeats 4000000 in
theorem qK_0 : qwKn ("OTHER", 15, 0, 0, 0, 0) = ([232, 233, 234, 235, 236, 237] : List Nat).filterMap (fun k => qN[k]?) := rfl
set_option maxRecDepth 100000 in
set_option maxHeartbeats 4000000 in
theorem qK_1 : qwKn ("CONSTANT_VALUE", 16, 1, 1, 1, 1) = ([251, 252, 253, 254, 255, 256] : List Nat).filterMap (fun k => qN[k]?) := rfl
set_option maxRecDepth 100000 in
set_option maxHeartbeats 4000000 in
theorem qK_2 : qwKn ("CODE", 17, 2, 2, 2, 2) = ([258, 259, 260, 261, 262, 263] : List Nat).filterMap (fun k => qN[k]?) := rfl
set_option maxRecDepth 100000 in
set_option maxHeartbeats 4000000 in
theorem qK_3 : qwKn ("EXCEPTIONS", 18, 2, 4, 4, 3) = ([266, 267, 268, 269, 270, 271] : List Nat).filterMap (fun k => qN[k]?) := rfl
set_option maxRecDepth 100000 in
set_option maxHeartbeats 4000000 in
theorem qK_4 : qwKn ("INNER_CLASSES", 19, 3, 8, 8, 4) = ([275, 276, 277, 278, 279, 280] : List Nat).filterMap (fun k => qN[k]?) := rfl
set_option maxRecDepth 100000 in
set_option maxHeartbeats 4000000 in
theorem qK_5 : qwKn ("ENCLOSING_METHOD", 20, 3, 16, 16, 5) = ([285, 286, 287, 288, 289, 290] : List Nat).filterMap (fun k => qN[k]?) := rfl
set_option maxRecDepth 100000 in
set_option maxHeartbeats 4000000 in
theorem qK_6 : qwKn ("NEST_HOST", 21, 3, 32, 96, 6) = ([296, 297, 298, 299, 300, 301] : List Nat).filterMap (fun k => qN[k]?) := rfl
set_option maxRecDepth 100000 in
set_option maxHeartbeats 4000000 in
theorem qK_7 : qwKn ("NEST_MEMBERS", 22, 3, 64, 96, 7) = ([308, 309, 310, 311, 312, 313] : List Nat).filterMap (fun k => qN[k]?) := rfl
set_option maxRecDepth 100000 in
set_option maxHeartbeats 4000000 in
theorem qK_8 : qwKn ("PERMITTED_SUBCLASSES", 23, 3, 128, 128, 8) = ([321, 322, 323, 324, 325, 326] : List Nat).filterMap (fun k => qN[k]?) := rfl
set_option maxRecDepth 100000 in
set_option maxHeartbeats 4000000 in
theorem qK_9 : qwKn ("BOOTSTRAP_METHODS", 24, 3, 256, 256, 9) = ([335, 336, 337, 338, 339, 340] : List Nat).filterMap (fun k => qN[k]?) := rfl
set_option maxRecDepth 100000 in
set_option maxHeartbeats 4000000 in
theorem qA_eq : qwA = ([219, 220, 222, 223, 224, 225, 226, 227, 228, 229, 230, 231] : List Nat).filterMap (fun k => qN[k]?) := rfl
set_option maxRecDepth 100000 in
set_option maxHeartbeats 4000000 in
theorem qW_eq : qwW = ([239, 240, 241, 242, 243, 244, 245, 246, 247, 248, 249, 250] : List Nat).filterMap (fun k => qN[k]?) := rfl
set_option maxRecDepth 100000 in
set_option maxHeartbeats 4000000 in
theorem qZ_eq : qwZ = ([6, 7, 4, 5] : List Nat).filterMap (fun k => qN[k]?) := rfl
theorem qS_in : ∀ e ∈ qStr, ∀ w ∈ qwS e, w ∈ qN := by
  intro e he
  simp only [qStr, List.mem_cons, List.not_mem_nil, or_false] at he
  rcases he with rfl | rfl | rfl | rfl | rfl | rfl | rfl | rfl | rfl | rfl | rfl | rfl | rfl | rfl | rfl | rfl | rfl | rfl | rfl | rfl | rfl | rfl | rfl | rfl | rfl
  · exact qN_in qS_0
  · exact qN_in qS_1
  · exact qN_in qS_2
  · exact qN_in qS_3
  · exact qN_in qS_4
  · exact qN_in qS_5
  · exact qN_in qS_6
  · exact qN_in qS_7
  · exact qN_in qS_8
  · exact qN_in qS_9
  · exact qN_in qS_10
  · exact qN_in qS_11
  · exact qN_in qS_12
  · exact qN_in qS_13
  · exact qN_in qS_14
  · exact qN_in qS_15
  · exact qN_in qS_16
  · exact qN_in qS_17
  · exact qN_in qS_18
  · exact qN_in qS_19
  · exact qN_in qS_20
  · exact qN_in qS_21
  · exact qN_in qS_22
  · exact qN_in qS_23
  · exact qN_in qS_24
theorem qK_in : ∀ e ∈ qKn, ∀ w ∈ qwKn e, w ∈ qN := by
  intro e he
  simp only [qKn, List.mem_cons, List.not_mem_nil, or_false] at he
  rcases he with rfl | rfl | rfl | rfl | rfl | rfl | rfl | rfl | rfl | rfl
  · exact qN_in qK_0
  · exact qN_in qK_1
  · exact qN_in qK_2
  · exact qN_in qK_3
  · exact qN_in qK_4
  · exact qN_in qK_5
  · exact qN_in qK_6
  · exact qN_in qK_7
  · exact qN_in qK_8
  · exact qN_in qK_9
end
section
/-! the links that reach the old world (printed by wip/whole/gen_links.py) -/
def qgl : List (Nat × Nat × Nat) := [(14, 1053, 1), (14, 38, 0), (5, 132, 2), (5, 147, 4), (5, 97, 3)]
def qgf : List (Nat × Nat × Nat) := [(14, 9, 1), (14, 15, 0)]
def qgn : List (Nat × Nat × Nat) := [(5, 136, 2), (5, 139, 3), (5, 84, 5), (5, 91, 4)]
def qgr : List (Nat × Nat × Nat) := [(9, 25, 100), (9, 30, 102), (9, 39, 104), (5, 151, 106), (6, 167, 108), (7, 97, 110), (7, 99, 112), (7, 101, 114), (7, 103, 116), (7, 105, 118), (7, 107, 120), (7, 109, 122), (7, 111, 124), (7, 113, 126), (7, 95, 128)]
def qgt : List (Nat × Nat × String) := [(9, 25, "<init>"), (9, 30, "<clinit>"), (9, 39, "V"), (5, 151, "Ljava/lang/String;"), (6, 167, "()V"), (7, 97, "byte"), (7, 99, "char"), (7, 101, "double"), (7, 103, "float"), (7, 105, "int"), (7, 107, "long"), (7, 109, "short"), (7, 111, "boolean"), (7, 113, "void"), (7, 95, "[]")]
def qgo : List (Nat × Nat) := [(5, 103)]
def qks : Nat := 14
def qSV (j : Nat) : String × String × String := match j with
  | 0 => ("java/lang/String", "COMPACT_STRINGS", "Z")
  | 1 => ("jdk/internal/util/Preconditions", "SIOOBE_FORMATTER", "Ljava/util/function/BiFunction;")
  | 2 => ("ClassReader$Attributes", "ALL", "[LClassReader$Known;")
  | 3 => ("ClassReader$1", "$SwitchMap$ClassReader$Known", "[I")
  | _ => ("ClassReader$Known", "OTHER", "LClassReader$Known;")
def qFV (j : Nat) : String × String × String := match j with
  | 0 => ("java/lang/String", "coder", "B")
  | 1 => ("java/lang/String", "value", "[B")
  | 2 => ("ClassReader$Known", "place", "I")
  | 3 => ("ClassReader$Known", "word", "Ljava/lang/String;")
  | 4 => ("ClassReader$Known", "bit", "I")
  | _ => ("ClassReader$Known", "rivals", "I")
def qwG (e : Nat × Nat × Nat) : List Jvm.Cond := [.fieldLink (qown e.1) e.2.1 (qSV e.2.2).1 (qSV e.2.2).2.1 (qSV e.2.2).2.2]
def qwH (e : Nat × Nat × Nat) : List Jvm.Cond := [.fieldLink (qown e.1) e.2.1 (qFV e.2.2).1 (qFV e.2.2).2.1 (qFV e.2.2).2.2]
def qwI (e : Nat × Nat × Nat) : List Jvm.Cond := [.fieldLinkNest (qown e.1) e.2.1 (qFV e.2.2).1 (qFV e.2.2).2.1 (qFV e.2.2).2.2 "ClassReader"]
def qwO (e : Nat × Nat) : List Jvm.Cond := qoWs "ClassReader$Known" (qown e.1) e.2
/-- words that stay, at every state -/
def qEl : List Jvm.Cond := qgl.flatMap qwG ++ (qgf.flatMap qwH ++ qgo.flatMap qwO)
def qEn : List Jvm.Cond := qgn.flatMap qwI
/-- words that are needed at the start alone -/
def qwR (e : Nat × Nat × String) : List Jvm.Cond := [.stringRef (qown e.1) e.2.1 e.2.2]
def qwV (j : Nat) : List Jvm.Cond := [.laysStatic (qSV j).1 (qSV j).2.1 (qSV j).2.2, .initialized (qSV j).1]
def qwT : List Jvm.Cond := [.laysStatic Bundle.tN "UNASSIGNED_STACK" Bundle.steD, .laysStatic Bundle.tN "SUPPRESSED_SENTINEL" Bundle.listD, .initialized Bundle.tN]
def qEw : List Jvm.Cond := qgt.flatMap qwR ++ ((List.range 5).flatMap qwV ++ qwT)
set_option maxRecDepth 100000 in
set_option maxHeartbeats 4000000 in
theorem qin_G : ∀ w ∈ qgl.flatMap qwG, w ∈ lw_tbl := qget_in (show qgl.flatMap qwG = ([(3, 44), (3, 66), (4, 177), (4, 184), (4, 193)] : List (Nat × Nat)).filterMap qget from rfl)
set_option maxRecDepth 100000 in
set_option maxHeartbeats 4000000 in
theorem qin_H : ∀ w ∈ qgf.flatMap qwH, w ∈ lw_tbl := qget_in (show qgf.flatMap qwH = ([(3, 190), (3, 191)] : List (Nat × Nat)).filterMap qget from rfl)
set_option maxRecDepth 100000 in
set_option maxHeartbeats 4000000 in
theorem qin_I : ∀ w ∈ qEn, w ∈ lw_tbl := qget_in (show qEn = ([(7, 169), (7, 170), (7, 171), (7, 172)] : List (Nat × Nat)).filterMap qget from rfl)
set_option maxRecDepth 100000 in
set_option maxHeartbeats 4000000 in
theorem qin_O : ∀ w ∈ qgo.flatMap qwO, w ∈ lw_tbl := qget_in (show qgo.flatMap qwO = ([(4, 195), (4, 196), (4, 198), (4, 199), (1, 27), (4, 200), (7, 173)] : List (Nat × Nat)).filterMap qget from rfl)
set_option maxRecDepth 100000 in
set_option maxHeartbeats 4000000 in
theorem qin_R : ∀ w ∈ qgt.flatMap qwR, w ∈ lw_tbl := qget_in (show qgt.flatMap qwR = ([(4, 18), (4, 47), (4, 63), (4, 205), (5, 31), (5, 184), (5, 185), (5, 186), (5, 187), (5, 188), (5, 189), (5, 190), (5, 191), (5, 192), (5, 199)] : List (Nat × Nat)).filterMap qget from rfl)
set_option maxRecDepth 100000 in
set_option maxHeartbeats 4000000 in
theorem qin_V : ∀ w ∈ (List.range 5).flatMap qwV, w ∈ lw_tbl := qget_in (show (List.range 5).flatMap qwV = ([(2, 198), (1, 18), (3, 45), (1, 23), (4, 178), (1, 6), (4, 194), (1, 29), (4, 185), (1, 28)] : List (Nat × Nat)).filterMap qget from rfl)
set_option maxRecDepth 100000 in
set_option maxHeartbeats 4000000 in
theorem qin_T : ∀ w ∈ qwT, w ∈ lw_tbl := qget_in (show qwT = ([(2, 99), (2, 101), (1, 10)] : List (Nat × Nat)).filterMap qget from rfl)
def qwCl : List Jvm.Cond := (List.range 4).map (fun x => .classLink "ClassReaderLaw" (qcatch x) (qxn x))
set_option maxRecDepth 100000 in
set_option maxHeartbeats 4000000 in
theorem qin_Cl : ∀ w ∈ qwCl, w ∈ lw_tbl := qget_in (show qwCl = ([(2, 54), (2, 55), (5, 59), (5, 91)] : List (Nat × Nat)).filterMap qget from rfl)
def qNcp : List (Nat × Nat) := [(0, 1), (0, 2), (0, 3), (1, 0), (1, 2), (1, 3), (2, 0), (2, 1), (2, 3), (3, 0), (3, 1), (3, 2)]
set_option maxRecDepth 100000 in
set_option maxHeartbeats 4000000 in
theorem qNC_in : ∀ w ∈ qNcp.map (fun q => Jvm.Cond.not (.castable (qxn q.1) (qxn q.2))), w ∈ qN := qN_in (show qNcp.map (fun q => Jvm.Cond.not (.castable (qxn q.1) (qxn q.2))) = ([374, 389, 404, 359, 390, 405, 363, 378, 409, 364, 379, 394] : List Nat).filterMap (fun k => qN[k]?) from rfl)
theorem qEl_in : ∀ w ∈ qEl, w ∈ lw_tbl := by
  intro w hw
  unfold qEl at hw
  rcases List.mem_append.mp hw with h | h
  · exact qin_G w h
  rcases List.mem_append.mp h with h | h
  · exact qin_H w h
  · exact qin_O w h
theorem qEw_in : ∀ w ∈ qEw, w ∈ lw_tbl := by
  intro w hw
  unfold qEw at hw
  rcases List.mem_append.mp hw with h | h
  · exact qin_R w h
  rcases List.mem_append.mp h with h | h
  · exact qin_V w h
  · exact qin_T w h
set_option maxRecDepth 100000 in
theorem qEl_good : qEl.all (fun w => w.onTables && (w.keepsFace || w.castAtom)) = true := by decide +kernel
end
section
/-! the old world of this class as the abstract machine has it -/
/-- the term that tells old object k's address at the start -/
def qtm (k : Nat) : Option Term :=
  if 100 ≤ k then (qStr[(k - 100) / 2]?).map (fun e => if k % 2 = 0 then qtS e else qtV e)
  else if 10 ≤ k then (qKn[k - 10]?).map (fun e => qtK e.1)
  else match k with
    | 1 => some (.arg 0)
    | 2 => some qtA
    | 3 => some qtW
    | 4 => some (.static "jdk/internal/util/Preconditions" "SIOOBE_FORMATTER" "Ljava/util/function/BiFunction;")
    | _ => none
def qsa (a : Array Value) (s : State) (k : Nat) : Nat := match qtm k with
  | some t => match t.eval a s none [] s with
    | some (.ref b) => b
    | _ => 0
  | none => 0
theorem qsa_of {a : Array Value} {s : State} {k b : Nat} {t : Term} (h : qtm k = some t) (ht : t.eval a s none [] s = some (.ref b)) : qsa a s k = b := by
  unfold qsa
  rw [h]
  dsimp only
  rw [ht]
def qXo (o j : Nat) : Option Value :=
  if 100 ≤ o then (if o % 2 = 0 then (qStr[(o - 100) / 2]?).bind (fun _ => match j with
    | 0 => some (.int 0)
    | 1 => some (.retAddr (o + 1))
    | _ => none) else none)
  else if 10 ≤ o then (qKn[o - 10]?).bind (fun e => match j with
    | 2 => some (.int (Int32.ofNat e.2.2.1))
    | 3 => some (.retAddr (100 + 2 * e.2.1))
    | 4 => some (.int (Int32.ofNat e.2.2.2.1))
    | 5 => some (.int (Int32.ofNat e.2.2.2.2.1))
    | _ => none)
  else none
def qXa (L : Nat) (xs : Nat → Int32) (q : Nat) : Option (FieldType × Nat × (Nat → Value)) :=
  if 100 ≤ q then (if q % 2 = 1 then (qStr[(q - 100) / 2]?).map (fun e => (.byte, e.2.2.length, fun j => .int (Int32.ofNat (e.2.2.getD j 0)))) else none)
  else match q with
    | 1 => some (.int, L, fun j => .int (xs j))
    | 2 => some (.object "ClassReader$Known", qKn.length, fun j => .retAddr (10 + j))
    | 3 => some (.int, qSw.length, fun j => .int (Int32.ofNat (qSw.getD j 0)))
    | _ => none
def qXs' (fv : Value) (j : Nat) : Option (String × String × String × Value) := match j with
  | 0 => some ((qSV 0).1, (qSV 0).2.1, (qSV 0).2.2, .int 1)
  | 1 => some ((qSV 1).1, (qSV 1).2.1, (qSV 1).2.2, fv)
  | 2 => some ((qSV 2).1, (qSV 2).2.1, (qSV 2).2.2, .retAddr 2)
  | 3 => some ((qSV 3).1, (qSV 3).2.1, (qSV 3).2.2, .retAddr 3)
  | 4 => some ((qSV 4).1, (qSV 4).2.1, (qSV 4).2.2, .retAddr 10)
  | _ => none
def qX (L : Nat) (xs : Nat → Int32) (fv : Value) : zEx := (qXs' fv, qfind qgl, fun j => if j < 6 then some (qFV j) else none, fun k ix => match qfind qgf k ix with
  | some j => some j
  | none => qfind qgn k ix, qXo, qXa L xs, qfind qgr)
def qov (o : Nat) : Option Int32 := if 10 ≤ o ∧ o < 100 then (qKn[o - 10]?).map (fun e => Int32.ofNat e.2.2.2.2.2) else none
def qol (k ix : Nat) : Bool := qgo.any (fun e => e.1 == k && e.2 == ix)
/-- the Strings -/
def qsk (k : Nat) : Option Nat := if 100 ≤ k ∧ k % 2 = 0 ∧ (k - 100) / 2 < qStr.length then some qks else none
def qEx (L : Nat) (xs : Nat → Int32) (fv : Value) : qExt := zextO (qX L xs fv) qol qov
abbrev qTT (L : Nat) (xs : Nat → Int32) (fv : Value) : zTb := qT (qEx L xs fv) qsk
def qst2 (L : Nat) (xs : Nat → Int32) (fv : Value) (sa : Nat → Nat) (n0 : Nat) (U : State) : Prop := qst1 n0 U ∧ zOldOK (qX L xs fv) (qTT L xs fv) sa (fun q : Nat => n0 ≤ q) U ∧ zOldV "ClassReader$Known" qov sa (fun q : Nat => n0 ≤ q) U ∧
  (∀ k ci, qsk k = some ci → va_O "java/lang/String" (sa k) (fun q : Nat => n0 ≤ q) U U.heap) ∧ (∀ w ∈ qEl, w.before #[] U = true) ∧ (∀ w ∈ qEn, va_Nw w U)
theorem qEn_form {w : Jvm.Cond} (hw : w ∈ qEn) : ∃ a i b n d h, w = .fieldLinkNest a i b n d h := by
  obtain ⟨e, -, h⟩ := List.mem_flatMap.mp hw
  unfold qwI at h
  rw [List.mem_singleton] at h
  exact ⟨_, _, _, _, _, _, h⟩
theorem qst2_stay (L : Nat) (xs : Nat → Int32) (fv : Value) (sa : Nat → Nat) (n0 : Nat) : zStay n0 (qst2 L xs fv sa n0) := by
  intro s U ⟨h1, h2, h3, h4, h5, h6⟩ hW hq
  have hq' : ∀ a : Nat, a < s.heap.size → ¬ (fun q : Nat => n0 ≤ q) a → U.heap[a]? = s.heap[a]? := fun a _ ha => hq a (Nat.lt_of_not_le ha)
  refine ⟨qst1_stay n0 s U h1 hW hq, h2.stay hW hq, h3.stay hW hq, fun k ci hk => (va_O.moved hW.alike (h4 k ci hk)).kept hq', fun w hw => zkeep (List.all_eq_true.mp qEl_good w hw) hW (h5 w hw), fun w hw => ?_⟩
  obtain ⟨x1, x2, x3, x4, x5, x6, rfl⟩ := qEn_form hw
  exact va_Nw.warmF hW (h6 _ hw)
theorem qsk_ok (L : Nat) (xs : Nat → Int32) (fv : Value) (sa : Nat → Nat) (n0 : Nat) : zSkOK (qTT L xs fv) sa n0 (qst2 L xs fv sa n0) := by
  intro s ⟨h1, h2, h3, h4, h5, h6⟩ k ci C hk hC
  have hk : qsk k = some ci := hk
  have hC : qcn[ci]? = some C := hC
  have h0 : 0 < k ∧ ci = qks := by
    unfold qsk at hk
    split at hk
    · next h => cases hk; exact ⟨by omega, rfl⟩
    · cases hk
  obtain ⟨h0, rfl⟩ := h0
  have hS : C = "java/lang/String" := by
    have : qcn[qks]? = some "java/lang/String" := by decide +kernel
    exact Option.some.inj (hC.symm.trans this)
  subst hS
  obtain ⟨cell, g1, g2, g3, g4⟩ := h4 k _ hk
  exact ⟨h0, cell, ⟨Nat.lt_of_not_le g4, g1⟩, g2, g3⟩
theorem qSV_ok {fv : Value} {j : Nat} {q : String × String × String × Value} (h : qXs' fv j = some q) : q.1 = (qSV j).1 ∧ q.2.1 = (qSV j).2.1 ∧ q.2.2.1 = (qSV j).2.2 := by
  unfold qXs' at h
  split at h <;> first | (cases h; exact ⟨rfl, rfl, rfl⟩) | cases h
theorem qext_ok (l : Launch) (L : Nat) (xs : Nat → Int32) (fv : Value) (sa : Nat → Nat) (n0 : Nat) {Ts Ns : List Jvm.Cond} : zExtOK l (qTT L xs fv) Ts Ns sa n0 (qst2 L xs fv sa n0) := by
  refine zextO_ok (X := qX L xs fv) (ol := qol) (ov := qov) (E := "ClassReader$Known") rfl (fun s h => h.2.1) (fun s h => h.2.2.1) (fun s a h _ => ?_) (fun s a h _ => ?_)
  · obtain ⟨h1, h2, h3, h4, h5, h6⟩ := h
    have h5' : ∀ w ∈ qEl, w.before a s = true := fun w hw => by
      have hg := List.all_eq_true.mp qEl_good w hw
      simp only [Bool.and_eq_true] at hg
      exact va_tabs hg.1 rfl (h5 w hw)
    refine ⟨fun k ix j C q hC hj hq => ?_, fun k ix j C hC hj => ?_⟩
    · have hC : qcn[k]? = some C := hC
      have hm := qfind_mem (show qfind qgl k ix = some j from hj)
      obtain ⟨e1, e2, e3⟩ := qSV_ok (show qXs' fv j = some q from hq)
      rw [e1, e2, e3]
      refine Or.inl (h5' _ ?_)
      unfold qEl
      refine List.mem_append_left _ (List.mem_flatMap.mpr ⟨_, hm, ?_⟩)
      unfold qwG
      rw [List.mem_singleton, qown_eq hC]
    · have hC : qcn[k]? = some C := hC
      have hj : (match qfind qgf k ix with | some j => some j | none => qfind qgn k ix) = some j := hj
      split at hj
      · next j' hf =>
        cases hj
        have hm := qfind_mem hf
        have hlt : j < 6 := by
          have : qgf.all (fun e => decide (e.2.2 < 6)) = true := by decide
          simpa using List.all_eq_true.mp this _ hm
        refine ⟨qFV j, if_pos hlt, Or.inl (h5' _ ?_)⟩
        unfold qEl
        refine List.mem_append_right _ (List.mem_append_left _ (List.mem_flatMap.mpr ⟨_, hm, ?_⟩))
        unfold qwH
        rw [List.mem_singleton, qown_eq hC]
      · next hf =>
        have hm := qfind_mem hj
        have hlt : j < 6 := by
          have : qgn.all (fun e => decide (e.2.2 < 6)) = true := by decide
          simpa using List.all_eq_true.mp this _ hm
        refine ⟨qFV j, if_pos hlt, Or.inr ⟨"ClassReader", va_Nw.use rfl (h6 _ ?_)⟩⟩
        unfold qEn
        refine List.mem_flatMap.mpr ⟨_, hm, ?_⟩
        unfold qwI
        rw [List.mem_singleton, qown_eq hC]
  · obtain ⟨h1, h2, h3, h4, h5, h6⟩ := h
    have h5' : ∀ w ∈ qEl, w.before a s = true := fun w hw => by
      have hg := List.all_eq_true.mp qEl_good w hw
      simp only [Bool.and_eq_true] at hg
      exact va_tabs hg.1 rfl (h5 w hw)
    intro k ix C ho hC w hw
    have hC : qcn[k]? = some C := hC
    obtain ⟨e, he, h9⟩ := List.any_eq_true.mp (show qgo.any (fun e => e.1 == k && e.2 == ix) = true from ho)
    simp only [Bool.and_eq_true, beq_iff_eq] at h9
    obtain ⟨rfl, rfl⟩ := h9
    refine h5' w ?_
    unfold qEl
    refine List.mem_append_right _ (List.mem_append_right _ (List.mem_flatMap.mpr ⟨e, he, ?_⟩))
    unfold qwO
    rw [qown_eq hC]
    exact hw
end
section
/-! the old world at the start -/
theorem zeqr {args : Array Value} {s : State} {t u : Term} {a : Nat} (h : (Jvm.Cond.eq t u).before args s = true) (hu : u.eval args s none [] s = some (.ref a)) : t.eval args s none [] s = some (.ref a) := by
  cases hv : t.eval args s none [] s with
  | none => simp [Jvm.Cond.before, Jvm.Cond.holds, Jvm.Cond.value, hv] at h
  | some w =>
    simp only [Jvm.Cond.before, Jvm.Cond.holds, Jvm.Cond.value, hv, hu] at h
    cases w <;> simp_all
theorem qstr_start {args : Array Value} {s : State} {A : Nat → Prop} (e : String × Nat × List Nat) (hw : ∀ w ∈ qwS e, w.before args s = true) (hlen : e.2.2.length < 2 ^ 31) (hA : ∀ a : Nat, a < s.heap.size → ¬ A a) :
    ∃ a t, (qtS e).eval args s none [] s = some (.ref a) ∧ (qtV e).eval args s none [] s = some (.ref t) ∧ va_O "java/lang/String" a A s s.heap ∧ va_OF "java/lang/String" "coder" "B" (.int 0) a A s s.heap ∧ va_OF "java/lang/String" "value" "[B" (.ref t) a A s s.heap ∧ va_T .byte t e.2.2.length (fun j => .int (Int32.ofNat (e.2.2.getD j 0))) A s s.heap := by
  obtain ⟨a, c, cA, kA, q1, q2, q3, q4, q5, q6, -⟩ := Cond.exactly_spec (args := args) (first := s) (o := none) (s := s) (idx := []) (t := qtS e) (cls := "java/lang/String") (hw _ (by simp [qwS]))
  obtain ⟨t, ht, hT⟩ := va_Tof (tm := qtV e) (ty := .byte) (N := e.2.2.length) (f := fun j => .int (Int32.ofNat (e.2.2.getD j 0))) (A := A) hlen (hw _ (by simp [qwS])) (va_eqt (hw _ (by simp [qwS]))) (fun j hj => va_eqt (hw _ (List.mem_append_right _ (List.mem_map.mpr ⟨j, List.mem_range.mpr hj, rfl⟩)))) hA
  exact ⟨a, t, q1, ht, ⟨cA, q3, q5, by rw [q6]; exact q2, hA a (Array.getElem?_eq_some_iff.mp q3).1⟩, vk_OFof q1 (va_eqt (hw _ (by simp [qwS]))) hA, vk_OFof q1 ht hA, hT⟩
theorem qkn_start {args : Array Value} {s : State} {A : Nat → Prop} (e : String × Nat × Nat × Nat × Nat × Nat) (hw : ∀ w ∈ qwKn e, w.before args s = true) {b : Nat} (hs : (qsn e.2.1).eval args s none [] s = some (.ref b)) (hA : ∀ a : Nat, a < s.heap.size → ¬ A a) :
    ∃ a, (qtK e.1).eval args s none [] s = some (.ref a) ∧ va_O "ClassReader$Known" a A s s.heap ∧ va_OF "java/lang/Enum" "ordinal" "I" (.int (Int32.ofNat e.2.2.2.2.2)) a A s s.heap ∧ va_OF "ClassReader$Known" "word" "Ljava/lang/String;" (.ref b) a A s s.heap ∧
      va_OF "ClassReader$Known" "place" "I" (.int (Int32.ofNat e.2.2.1)) a A s s.heap ∧ va_OF "ClassReader$Known" "bit" "I" (.int (Int32.ofNat e.2.2.2.1)) a A s s.heap ∧ va_OF "ClassReader$Known" "rivals" "I" (.int (Int32.ofNat e.2.2.2.2.1)) a A s s.heap := by
  obtain ⟨a, c, cA, kA, q1, q2, q3, q4, q5, q6, -⟩ := Cond.exactly_spec (args := args) (first := s) (o := none) (s := s) (idx := []) (t := qtK e.1) (cls := "ClassReader$Known") (hw _ (by simp [qwKn]))
  exact ⟨a, q1, ⟨cA, q3, q5, by rw [q6]; exact q2, hA a (Array.getElem?_eq_some_iff.mp q3).1⟩, vk_OFof q1 (va_eqt (hw _ (by simp [qwKn]))) hA, vk_OFof q1 (zeqr (hw _ (by simp [qwKn])) hs) hA,
    vk_OFof q1 (va_eqt (hw _ (by simp [qwKn]))) hA, vk_OFof q1 (va_eqt (hw _ (by simp [qwKn]))) hA, vk_OFof q1 (va_eqt (hw _ (by simp [qwKn]))) hA⟩
theorem qStr_small : ∀ e ∈ qStr, e.2.2.length < 2 ^ 31 := by
  intro e he
  have : qStr.all (fun e => decide (e.2.2.length < 100)) = true := by decide +kernel
  have := List.all_eq_true.mp this e he
  simp only [decide_eq_true_eq] at this
  omega
theorem qKn_str : ∀ e ∈ qKn, ∃ q, qStr[e.2.1]? = some q := by
  intro e he
  have : qKn.all (fun e => (qStr[e.2.1]?).isSome) = true := by decide +kernel
  exact Option.isSome_iff_exists.mp (List.all_eq_true.mp this e he)
theorem qso_S {s : State} {b : Nat} (hN : ∀ w ∈ qN, w.before #[Value.ref b] s = true) {j : Nat} {e : String × Nat × List Nat} (he : qStr[j]? = some e) : let sa := qsa #[Value.ref b] s
    let A := fun q : Nat => s.heap.size ≤ q
    (qtS e).eval #[Value.ref b] s none [] s = some (.ref (sa (100 + 2 * j))) ∧ va_O "java/lang/String" (sa (100 + 2 * j)) A s s.heap ∧ va_OF "java/lang/String" "coder" "B" (.int 0) (sa (100 + 2 * j)) A s s.heap ∧ va_OF "java/lang/String" "value" "[B" (.ref (sa (100 + 2 * j + 1))) (sa (100 + 2 * j)) A s s.heap ∧ va_T .byte (sa (100 + 2 * j + 1)) e.2.2.length (fun j => .int (Int32.ofNat (e.2.2.getD j 0))) A s s.heap := by
  intro sa A
  have hm := List.mem_of_getElem? he
  obtain ⟨a, t, h1, h2, h3, h4, h5, h6⟩ := qstr_start (A := A) e (fun w hw => hN w (qS_in e hm w hw)) (qStr_small e hm) (fun a h => Nat.not_le.mpr h)
  have e1 : sa (100 + 2 * j) = a := qsa_of (t := qtS e) (by
    unfold qtm
    rw [if_pos (by omega), show (100 + 2 * j - 100) / 2 = j by omega, he, Option.map_some, if_pos (by omega)]) h1
  have e2 : sa (100 + 2 * j + 1) = t := qsa_of (t := qtV e) (by
    unfold qtm
    rw [if_pos (by omega), show (100 + 2 * j + 1 - 100) / 2 = j by omega, he, Option.map_some, if_neg (by omega)]) h2
  rw [e1, e2]
  exact ⟨h1, h3, h4, h5, h6⟩
theorem qKn_len : qKn.length < 90 := by decide +kernel
theorem qso_K {s : State} {b : Nat} (hN : ∀ w ∈ qN, w.before #[Value.ref b] s = true) {i : Nat} {e : String × Nat × Nat × Nat × Nat × Nat} (he : qKn[i]? = some e) : let sa := qsa #[Value.ref b] s
    let A := fun q : Nat => s.heap.size ≤ q
    (qtK e.1).eval #[Value.ref b] s none [] s = some (.ref (sa (10 + i))) ∧ va_O "ClassReader$Known" (sa (10 + i)) A s s.heap ∧ va_OF "java/lang/Enum" "ordinal" "I" (.int (Int32.ofNat e.2.2.2.2.2)) (sa (10 + i)) A s s.heap ∧ va_OF "ClassReader$Known" "word" "Ljava/lang/String;" (.ref (sa (100 + 2 * e.2.1))) (sa (10 + i)) A s s.heap ∧
      va_OF "ClassReader$Known" "place" "I" (.int (Int32.ofNat e.2.2.1)) (sa (10 + i)) A s s.heap ∧ va_OF "ClassReader$Known" "bit" "I" (.int (Int32.ofNat e.2.2.2.1)) (sa (10 + i)) A s s.heap ∧ va_OF "ClassReader$Known" "rivals" "I" (.int (Int32.ofNat e.2.2.2.2.1)) (sa (10 + i)) A s s.heap := by
  intro sa A
  have hm := List.mem_of_getElem? he
  obtain ⟨q, hq⟩ := qKn_str e hm
  have hS := (qso_S hN hq).1
  obtain ⟨a, h1, h2⟩ := qkn_start (A := A) e (fun w hw => hN w (qK_in e hm w hw)) (b := sa (100 + 2 * e.2.1)) (by
    unfold qsn
    rw [hq]
    exact hS) (fun a h => Nat.not_le.mpr h)
  have hi : i < 90 := Nat.lt_trans (List.getElem?_eq_some_iff.mp he).1 (by decide +kernel)
  have e1 : sa (10 + i) = a := qsa_of (t := qtK e.1) (by
    unfold qtm
    rw [if_neg (by omega), if_pos (by omega), show 10 + i - 10 = i by omega, he, Option.map_some]) h1
  rw [e1]
  exact ⟨h1, h2⟩
theorem qso_A {s : State} {b : Nat} (hN : ∀ w ∈ qN, w.before #[Value.ref b] s = true) : let sa := qsa #[Value.ref b] s
    let A := fun q : Nat => s.heap.size ≤ q
    qtA.eval #[Value.ref b] s none [] s = some (.ref (sa 2)) ∧ va_T (.object "ClassReader$Known") (sa 2) qKn.length (fun j => .ref (sa (10 + j))) A s s.heap := by
  intro sa A
  have hw : ∀ w ∈ qwA, w.before #[Value.ref b] s = true := fun w h => hN w (qN_in qA_eq w h)
  obtain ⟨t, ht, hT⟩ := va_Tof (tm := qtA) (ty := .object "ClassReader$Known") (N := qKn.length) (f := fun j => .ref (sa (10 + j))) (A := A) (by decide +kernel) (hw _ (by unfold qwA; simp)) (va_eqt (hw (.eq (.length qtA) (.int (Int32.ofNat qKn.length))) (by unfold qwA; simp))) (fun j hj => by
    have h1 := hw (.eq (.elem qtA (.int (Int32.ofNat j))) (qtK (qKn.getD j ("", 0, 0, 0, 0, 0)).1)) (by unfold qwA; exact List.mem_append_right _ (List.mem_map.mpr ⟨j, List.mem_range.mpr hj, rfl⟩))
    have h2 : qKn[j]? = some (qKn.getD j ("", 0, 0, 0, 0, 0)) := by simp [List.getD, hj]
    exact zeqr h1 (qso_K hN h2).1) (fun a h => Nat.not_le.mpr h)
  have e1 : sa 2 = t := qsa_of (t := qtA) rfl ht
  rw [e1]
  exact ⟨ht, hT⟩
theorem qso_W {s : State} {b : Nat} (hN : ∀ w ∈ qN, w.before #[Value.ref b] s = true) : let sa := qsa #[Value.ref b] s
    let A := fun q : Nat => s.heap.size ≤ q
    qtW.eval #[Value.ref b] s none [] s = some (.ref (sa 3)) ∧ va_T .int (sa 3) qSw.length (fun j => .int (Int32.ofNat (qSw.getD j 0))) A s s.heap := by
  intro sa A
  have hw : ∀ w ∈ qwW, w.before #[Value.ref b] s = true := fun w h => hN w (qN_in qW_eq w h)
  obtain ⟨t, ht, hT⟩ := va_Tof (tm := qtW) (ty := .int) (N := qSw.length) (f := fun j => .int (Int32.ofNat (qSw.getD j 0))) (A := A) (by decide +kernel) (hw _ (by unfold qwW; simp)) (va_eqt (hw (.eq (.length qtW) (.int (Int32.ofNat qSw.length))) (by unfold qwW; simp))) (fun j hj => va_eqt (hw _ (by unfold qwW; exact List.mem_append_right _ (List.mem_map.mpr ⟨j, List.mem_range.mpr hj, rfl⟩)))) (fun a h => Nat.not_le.mpr h)
  have e1 : sa 3 = t := qsa_of (t := qtW) rfl ht
  rw [e1]
  exact ⟨ht, hT⟩
end
section
/-! all that stands at the start -/
theorem zncast {args : Array Value} {s : State} {x y : String} (h : (Jvm.Cond.not (.castable x y)).before args s = true) {c1 c2 : ClassId} (e1 : s.vm.findClass x = some c1) (e2 : s.vm.findClass y = some c2) : s.vm.assignable c1 c2 = false := by
  simpa [Jvm.Cond.before, Jvm.Cond.holds, Jvm.Cond.value, e1, e2] using h
theorem qwarm0 (s : State) : s.WarmedH s.vm := State.WarmedH.refl s
theorem qXs_tabs : ∀ w ∈ qXs, w.onTables = true := by
  intro w hw
  have hg := List.all_eq_true.mp qXs_good w hw
  simp only [Bool.and_eq_true] at hg
  exact hg.1
theorem qst1_start {s : State} {b : Nat} (hN : ∀ w ∈ qN, w.before #[Value.ref b] s = true) (hT : ∀ w ∈ lw_tbl, w.before #[Value.ref b] s = true) : qst1 s.heap.size s := by
  have hA : ∀ a : Nat, a < s.heap.size → ¬ (fun q : Nat => s.heap.size ≤ q) a := fun a h => Nat.not_le.mpr h
  have hE : ∀ w ∈ qwT, w.before #[Value.ref b] s = true := fun w h => hT w (qin_T w h)
  have hZ : ∀ w ∈ qwZ, w.before #[Value.ref b] s = true := fun w h => hN w (qN_in qZ_eq w h)
  have z1 : va_Zq Bundle.tN "UNASSIGNED_STACK" Bundle.steD (fun q : Nat => s.heap.size ≤ q) s s.heap := va_Zqof (hE _ (by simp [qwT])) (hE _ (by simp [qwT])) (hZ (.isRef (.static Bundle.tN "UNASSIGNED_STACK" Bundle.steD)) (by unfold qwZ Bundle.tN Bundle.steD; simp)) hA
  have z2 : va_Zq Bundle.tN "SUPPRESSED_SENTINEL" Bundle.listD (fun q : Nat => s.heap.size ≤ q) s s.heap := va_Zqof (hE _ (by simp [qwT])) (hE _ (by simp [qwT])) (hZ (.isRef (.static Bundle.tN "SUPPRESSED_SENTINEL" Bundle.listD)) (by unfold qwZ Bundle.tN Bundle.listD; simp)) hA
  refine ⟨⟨fun w hw => va_tabs (qXs_tabs w hw) rfl (hT w (qXs_in w hw)), fun w hw => ?_, z1, z2, zlsMove (hE (.laysStatic Bundle.tN "UNASSIGNED_STACK" Bundle.steD) (by simp [qwT])) z1 (qwarm0 s) (fun _ _ => rfl) _, zlsMove (hE (.laysStatic Bundle.tN "SUPPRESSED_SENTINEL" Bundle.listD) (by simp [qwT])) z2 (qwarm0 s) (fun _ _ => rfl) _⟩, fun x hx => ?_, fun x hx y hy c1 c2 e1 e2 => ?_⟩
  · obtain ⟨x1, x2, x3, x4, x5, x6, rfl⟩ := qNs_form hw
    exact va_Nw.of rfl (hT _ (qNs_in _ hw))
  · exact va_tabs rfl rfl (hT _ (qin_Cl _ (List.mem_map.mpr ⟨x, List.mem_range.mpr hx, rfl⟩)))
  · by_cases h : x = y
    · subst h
      cases e1.symm.trans e2
      rw [va_asg]
      simp
    · have hm : (x, y) ∈ qNcp := by
        have h4 : ∀ x : Fin 4, ∀ y : Fin 4, (x : Nat) ≠ (y : Nat) → ((x : Nat), (y : Nat)) ∈ qNcp := by decide
        exact h4 ⟨x, hx⟩ ⟨y, hy⟩ h
      rw [zncast (hN _ (qNC_in _ (List.mem_map.mpr ⟨(x, y), hm, rfl⟩))) e1 e2]
      simp [h]
theorem qst2_start {s : State} {b L : Nat} {xs : Nat → Int32} (hN : ∀ w ∈ qN, w.before #[Value.ref b] s = true) (hT : ∀ w ∈ lw_tbl, w.before #[Value.ref b] s = true) (hL : L ≤ 2048) (hX : va_X b L xs s s.heap) (hb : b < s.heap.size) :
    ∃ fv, (fv = .null ∨ fv = .retAddr 4) ∧ qst2 L xs fv (qsa #[Value.ref b] s) s.heap.size s := by
  have hA : ∀ a : Nat, a < s.heap.size → ¬ (fun q : Nat => s.heap.size ≤ q) a := fun a h => Nat.not_le.mpr h
  have hE : ∀ w ∈ qEw, w.before #[Value.ref b] s = true := fun w h => hT w (qEw_in w h)
  have hV : ∀ j, j < 5 → ∀ w ∈ qwV j, w.before #[Value.ref b] s = true := fun j hj w h => hT w (qin_V w (List.mem_flatMap.mpr ⟨j, List.mem_range.mpr hj, h⟩))
  have hZ : ∀ w ∈ qwZ, w.before #[Value.ref b] s = true := fun w h => hN w (qN_in qZ_eq w h)
  have hst : ∀ j, j < 5 → ∀ v, (Term.static (qSV j).1 (qSV j).2.1 (qSV j).2.2).eval #[Value.ref b] s none [] s = some v → va_Z (qSV j).1 (qSV j).2.1 (qSV j).2.2 v (fun q : Nat => s.heap.size ≤ q) s s.heap := fun j hj v hv => va_Zof (hV j hj _ (by simp [qwV])) (hV j hj _ (by simp [qwV])) hv hA
  obtain ⟨fv, hfv, hf⟩ : ∃ fv, (fv = .null ∨ fv = .retAddr 4) ∧ (Term.static (qSV 1).1 (qSV 1).2.1 (qSV 1).2.2).eval #[Value.ref b] s none [] s = some (zcv (qsa #[Value.ref b] s) fv) := by
    have h := hZ (.isRef (.static (qSV 1).1 (qSV 1).2.1 (qSV 1).2.2)) (by unfold qwZ qSV; simp)
    cases hv : (Term.static (qSV 1).1 (qSV 1).2.1 (qSV 1).2.2).eval #[Value.ref b] s none [] s with
    | none => simp [Jvm.Cond.before, Jvm.Cond.holds, Jvm.Cond.value, hv] at h
    | some w =>
      simp only [Jvm.Cond.before, Jvm.Cond.holds, Jvm.Cond.value, hv] at h
      cases w with
      | null => exact ⟨.null, Or.inl rfl, rfl⟩
      | ref t => exact ⟨.retAddr 4, Or.inr rfl, by show _ = some (Value.ref (qsa #[Value.ref b] s 4)); rw [qsa_of (k := 4) (t := .static (qSV 1).1 (qSV 1).2.1 (qSV 1).2.2) rfl hv]⟩
      | _ => simp at h
  obtain ⟨a1, a2⟩ := qso_A hN
  obtain ⟨w1, w2⟩ := qso_W hN
  obtain ⟨e0, he0, hn0⟩ : ∃ e, qKn[0]? = some e ∧ e.1 = "OTHER" := ⟨_, rfl, rfl⟩
  have hk0 := qso_K hN he0
  have hsb : qsa #[Value.ref b] s 1 = b := qsa_of (t := .arg 0) rfl rfl
  refine ⟨fv, hfv, qst1_start hN hT, ⟨fun j q hq => ?_, fun o j v f hv hf' => ?_, fun q ty n f hq => ?_, fun k ix q C hq hC => ?_⟩, fun o v hv => ?_, fun k ci hk => ?_, fun w hw => ?_, fun w hw => ?_⟩
  · have hq : qXs' fv j = some q := hq
    unfold qXs' at hq
    split at hq
    · cases hq
      exact hst 0 (by omega) _ (va_eqi (hZ _ (by unfold qwZ qSV; simp)))
    · cases hq
      exact hst 1 (by omega) _ hf
    · cases hq
      exact hst 2 (by omega) _ a1
    · cases hq
      exact hst 3 (by omega) _ w1
    · cases hq
      have := hk0.1
      rw [hn0] at this
      exact hst 4 (by omega) _ this
    · cases hq
  · have hv : qXo o j = some v := hv
    have hf' : (if j < 6 then some (qFV j) else none) = some f := hf'
    split at hf'
    · cases hf'
      unfold qXo at hv
      split at hv
      · next h100 =>
        split at hv
        · next hev =>
          obtain ⟨e, he, hv⟩ := Option.bind_eq_some_iff.mp hv
          have hS := qso_S hN he
          rw [show 100 + 2 * ((o - 100) / 2) = o by omega] at hS
          split at hv
          · cases hv; exact hS.2.2.1
          · cases hv; exact hS.2.2.2.1
          · cases hv
        · cases hv
      · next h100 =>
        split at hv
        · next h10 =>
          obtain ⟨e, he, hv⟩ := Option.bind_eq_some_iff.mp hv
          have hK := qso_K hN he
          rw [show 10 + (o - 10) = o by omega] at hK
          split at hv
          · cases hv; exact hK.2.2.2.2.1
          · cases hv; exact hK.2.2.2.1
          · cases hv; exact hK.2.2.2.2.2.1
          · cases hv; exact hK.2.2.2.2.2.2
          · cases hv
        · cases hv
    · cases hf'
  · have hq : qXa L xs q = some (ty, n, f) := hq
    unfold qXa at hq
    split at hq
    · next h100 =>
      split at hq
      · next hod =>
        obtain ⟨e, he, hq⟩ := Option.map_eq_some_iff.mp hq
        cases hq
        have hS := qso_S hN he
        rw [show 100 + 2 * ((q - 100) / 2) + 1 = q by omega] at hS
        exact hS.2.2.2.2
      · cases hq
    · split at hq
      · cases hq
        rw [hsb]
        obtain ⟨scr, h1, h2, h3, h4, h5⟩ := hX
        exact ⟨scr, h1, h2, h3, by omega, by rw [h4], h5, Nat.not_le.mpr hb⟩
      · cases hq; exact a2
      · cases hq; exact w2
      · cases hq
  · have hC : qcn[k]? = some C := hC
    have hm := qfind_mem (show qfind qgr k ix = some q from hq)
    have hck : qgr.all (fun e => (qgt.any (fun t => t.1 == e.1 && t.2.1 == e.2.1)) && decide (e.2.2 % 2 = 0) && decide (100 ≤ e.2.2) && (match qStr[(e.2.2 - 100) / 2]? with | some t => t.1 == qown e.1 && t.2.1 == e.2.1 | none => false)) = true := by decide +kernel
    have hck := List.all_eq_true.mp hck _ hm
    simp only [Bool.and_eq_true, decide_eq_true_eq] at hck
    obtain ⟨⟨⟨c1, c2⟩, c3⟩, c4⟩ := hck
    obtain ⟨t, ht, htt⟩ := List.any_eq_true.mp c1
    simp only [Bool.and_eq_true, beq_iff_eq] at htt
    split at c4
    · next e he =>
      simp only [Bool.and_eq_true, beq_iff_eq] at c4
      have hS := (qso_S hN he).1
      rw [show 100 + 2 * ((q - 100) / 2) = q by omega] at hS
      unfold qtS at hS
      rw [c4.1, c4.2, qown_eq hC] at hS
      have hw := hE (.stringRef (qown t.1) t.2.1 t.2.2) (List.mem_append_left _ (List.mem_flatMap.mpr ⟨t, ht, by simp [qwR]⟩))
      rw [htt.1, htt.2, qown_eq hC] at hw
      exact ⟨t.2.2, (vk_R.of hw hS)⟩
    · cases c4
  · unfold qov at hv
    split at hv
    · next h =>
      obtain ⟨e, he, hv⟩ := Option.map_eq_some_iff.mp hv
      cases hv
      have hK := qso_K hN he
      rw [show 10 + (o - 10) = o by omega] at hK
      exact ⟨hK.2.1, hK.2.2.1⟩
    · cases hv
  · unfold qsk at hk
    split at hk
    · next h =>
      obtain ⟨e, he⟩ : ∃ e, qStr[(k - 100) / 2]? = some e := ⟨_, List.getElem?_eq_getElem h.2.2⟩
      have hS := qso_S hN he
      rw [show 100 + 2 * ((k - 100) / 2) = k by omega] at hS
      exact hS.2.1
    · cases hk
  · have hg := List.all_eq_true.mp qEl_good w hw
    simp only [Bool.and_eq_true] at hg
    exact va_tabs hg.1 rfl (hT w (qEl_in w hw))
  · obtain ⟨x1, x2, x3, x4, x5, x6, rfl⟩ := qEn_form hw
    exact va_Nw.of rfl (hT _ (qin_I _ hw))
end
section
/-! THE CLAIM OUT OF THE ABSTRACT MACHINE ALONE (the skeleton's rows, with the launch's flags and the handlers' table carried along) -/
/-- what is left: on every script of at most 2048 ints the abstract machine runs the law to its end with 1, within the room -/
def qGoal : Prop := ∀ (L : Nat) (xs : Nat → Int32) (fv : Value), L ≤ 2048 → (fv = .null ∨ fv = .retAddr 4) → ∃ (d n mc ms : Nat) (h' : zH), d ≤ 500 ∧ mc ≤ 601024 ∧ ms ≤ 7293034 ∧
  zRun (qTT L xs fv) (zX (qTT L xs fv) d) qmL n (0, [(0, .retAddr 1)], [], []) (.inl (some (.int 1)), h', mc, ms)
def lw_P (b : Addr) (xs : List Int32) (args : Array Value) (s : State) : Prop := args = #[.ref b] ∧ s.IntsAt b xs ∧ xs.length ≤ 2048 ∧ (Jvm.Cond.and given_1 narrow_1).before args s = true
set_option maxHeartbeats 4000000 in
theorem lw_walk (l : Launch) (hfl : ∀ e : Env, l.admits e → e.platform.stackTraces = false) (hG : qGoal) (b : Addr) (xs : List Int32) : MetFree l x (headSpec (Jvm.Cond.code x code maxLocals ret :: tables_1) room_1) (lw_P b xs) (fun _ _ _ _ _ => True) lw_Q := by
  refine MetFree.of_bodyS (code := code) (maxLocals := maxLocals) (ret := ret) (by decide) ?_ ?_
  · intro args s m h hn
    obtain ⟨meth, c, h1, h2, h3, h4, h5, h6, -, -⟩ := Cond.code_spec hn (atoms_spec (ws := Jvm.Cond.code x code maxLocals ret :: tables_1) h _ List.mem_cons_self)
    exact ⟨meth, c, h1, h2, h3, h4, h5, h6⟩
  · intro p e s m args below meth c s₁ B hml0 hP _
    obtain ⟨rfl, hx, hbd, hgv⟩ := hP
    obtain ⟨scr, harrAt, hlist, hof, hsmall⟩ := hx
    obtain ⟨hcb, hkn, -, -⟩ := State.arrayAt?_spec harrAt
    have hown : s.vm.findClass R_law = some m.cls := findClass_of_methodNamed B.named
    have hts0 : ∀ c ∈ (Jvm.Cond.code x code maxLocals ret :: tables_1), c.before #[Value.ref b] s = true := atoms_spec (ws := Jvm.Cond.code x code maxLocals ret :: tables_1) B.pre
    have hts : ∀ w ∈ lw_tbl, w.before #[Value.ref b] s = true := k2_hts_sels lw_privs (fun w hw => hts0 w (List.mem_cons_of_mem _ hw)) lw_privs_ok
    have hml : c.maxLocals = 9 := B.maxLocals_eq (hts0 _ List.mem_cons_self)
    have X₀ : Stand p l e room_1 s m #[Value.ref b] below meth c s₁ [] 0 0 := Stand.of_body B
    have hh0 : s₁.heap = s.heap := by rw [B.state]; rfl
    have hsz : scr.slots.size = xs.length := by rw [← Array.length_toList, hlist, List.length_map]
    have hval : ∀ j : Nat, j < xs.length → scr.slots[j]? = some (.int (xs.getD j 0)) := fun j hj => by
      rw [← Array.getElem?_toList, hlist]
      simp [hj]
    have hbl : b < s.heap.size := (Array.getElem?_eq_some_iff.mp hcb).1
    have hX : va_X b xs.length (fun j => xs.getD j 0) s s.heap := ⟨scr, hcb, hof, hkn, hsz, hval⟩
    have hexc : ∀ q ∈ c.exceptionTable.toList, ∀ pc, covers q pc = false := by
      intro q hq pc
      obtain ⟨meth', c', h1, h2, -, -, -, -, h7, -⟩ := Cond.code_spec B.named (hts0 _ List.mem_cons_self)
      cases h1.symm.trans B.method
      cases h2.symm.trans X₀.code
      rw [Array.isEmpty_iff] at h7
      rw [h7] at hq
      cases hq
    have hN := qN_of hgv
    obtain ⟨fv, hfv, hst⟩ := qst2_start hN hts hbd hX hbl
    obtain ⟨d, n, mc, ms, h', g1, g2, g3, hrun⟩ := hG xs.length (fun j => xs.getD j 0) fv hbd hfv
    have K : W p l e room_1 s m #[Value.ref b] below meth c s₁.heap [] 0 0 (lw_Z below #[Value.ref b] s) (entryFrame m ([Value.ref b] : List Value).toArray 9) := by
      rw [hh0]
      exact zlaw_start l hfl B.exec B.bytes B.returns hml hown hts B.notSynchronized hexc (qEx xs.length (fun j => xs.getD j 0) fv) qsk (qsa #[Value.ref b] s) (qst2 xs.length (fun j => xs.getD j 0) fv (qsa #[Value.ref b] s) s.heap.size) hst (fun U hU => hU.1) (qst2_stay _ _ _ _ _) (qext_ok _ _ _ _ _ _) (qsk_ok _ _ _ _ _)
        (kS := 1) ⟨by decide, qsa_of (t := .arg 0) rfl rfl⟩ hrun g1 g2 g3
    obtain ⟨t, a1, o, b1, b2, b3⟩ := K s₁ rfl X₀
    exact ⟨t, o, a1, b1, b2, b3⟩
theorem lw_pre_spec {args : Array Value} {s : State} (h : (Jvm.Cond.and given_1 narrow_1).before args s = true) (hr : rest_1_c.before args s = true) : ∃ (b : Addr) (xs : List Int32), lw_P b xs args s := by
  have hs := flat_of_before _ h
  have hq := flat_of_before _ hr
  have hc : (Cond.count 1).before args s = true := hs _ (by decide +kernel)
  have harr : (Cond.arrayOf (.arg 0) .int).before args s = true := hs _ (by decide +kernel)
  have hle : (Cond.le (.length (.arg 0)) (.int 2048)).before args s = true := hs _ (by decide +kernel)
  have hlen : (Cond.isInt (.length (.arg 0))).before args s = true := hq _ (by decide +kernel)
  have hall : (Cond.all (.arg 0) (.isInt (.elem (.arg 0) (.index 0)))).before args s = true := hq _ (by decide +kernel)
  obtain ⟨b, xs, hb, hx⟩ := State.ints_of_pre rfl harr hlen hall
  have hsm : xs.length < 2 ^ 31 := hx.choose_spec.2.2.2
  have hev : (Term.length (.arg 0)).eval args s none [] s = some (.int xs.length.toInt32) := hx.length_eval hb
  have hv := Cond.le_ints hev (show (Term.int 2048).eval args s none [] s = some (.int 2048) from rfl)
  have hd : xs.length.toInt32 ≤ 2048 := by
    simpa [Cond.before, Cond.holds, hv] using hle
  have hN : xs.length ≤ 2048 := (Int32.ofNat_le_ofNat hsm (by decide)).mp (show Int32.ofNat xs.length ≤ Int32.ofNat 2048 from hd)
  exact ⟨b, xs, Cond.one_arg hc (show args[0]? = some (.ref b) from hb), hx, hN, h⟩
theorem lw_comes (l : Launch) (hfl : ∀ e : Env, l.admits e → e.platform.stackTraces = false) (hG : qGoal) : Comes l x (Jvm.Cond.code x code maxLocals ret :: tables_1) room_1 (fun tb e args s => Calls_1 tb e args s ∧ rest_1 tb e args s ∧ Pre_1 tb e args s)
    (fun _ _ args s o t => lw_Q args s o t) := by
  intro p e ha hc hk s m args below hf hfit hheap happ hpre
  obtain ⟨b, xs, hP⟩ := lw_pre_spec hpre.2.2 hpre.2.1
  obtain ⟨k, o, h1, h2, h3, hQ⟩ := lw_walk l hfl hG b xs p e ha hc hk s m args below hf ((Spec.applies_iff_loose hf).mp happ).1 hP trivial
  exact ⟨k, o, h1, h2, h3, hQ⟩
theorem lw_frame {s t : State} {o : Outcome} {args : Array Value} (h : Framed s o t [] 601024 7293034) :
    Framed s o t (fieldLocs frame_1_writes args s ++ arrayLocs frame_1_arrays args s ++ staticLocs frame_1_statics s) 601024 7293034 := h
theorem qflags {l : Launch} (h : l.flags = flags0) (e : Env) (ha : l.admits e) : e.platform.stackTraces = false := by
  have h1 : e.platform.stackTraces = l.stackTraces := by rw [ha.platform]
  have h2 : l.stackTraces = false := by
    show (!l.flags.contains noTraceFlag) = false
    rw [h]
    decide +kernel
  exact h1.trans h2
theorem lw_limb (hG : qGoal) (L : Cond) (hL : ∀ (args : Array Value) (s t : State), L.after args s (.returned (some (.int 1))) t = true) :
    ArmFor flags0 classFile x code maxLocals ret World_1 tables_1 room_1 Calls_1 rest_1 Pre_1
      (fun tb e a s o t => postC L tb e a s o t ∧ Framed s o t (fieldLocs frame_1_writes a s ++ arrayLocs frame_1_arrays a s ++ staticLocs frame_1_statics s) 601024 7293034) := by
  intro l hl _ _ p e ha hc hk s m args below hf hfit hheap happ hpre
  obtain ⟨k, o, h1, h2, h3, rfl, hF⟩ := lw_comes l (qflags hl) hG p e ha hc hk s m args below hf hfit hheap happ hpre
  exact ⟨k, _, h1, h2, h3, hL args s _, lw_frame hF⟩
theorem qvc (hG : qGoal) : Claimed_1_1 ∧ Claimed_1_2 := ⟨lw_limb hG limb_1_1 (fun args s t => by simp [limb_1_1, Cond.after, Cond.holds, Cond.value]), lw_limb hG limb_1_2 (fun args s t => Cond.after_iff.mpr (by
  first | (rw [show limb_1_2 = Cond.eq .result (.int 1) from rfl, Cond.eq_ints (x := 1) (y := 1) rfl rfl]; simp; done) | (simp [limb_1_2, Cond.value, Term.eval]; done)))⟩
end
section
/-! the abstract machine as a program -/
def zrunF (T : zTb) (C : Nat → List Value → zH → Option zRs) (M : zM) : Nat → zG → Option zRs
  | 0, _ => none
  | n + 1, g => match zstep T M g with
    | none => none
    | some (.inl (g', dc, ds)) => match zrunF T C M n g' with
      | some r' => some (zadd dc ds r')
      | none => none
    | some (.inr (.inl e)) => some e
    | some (.inr (.inr (mi, as, pc, l, rest, h))) => match C mi as h with
      | none => none
      | some rc => match rc.1 with
        | .inl v => match zrunF T C M n (pc + 3, l, v.toList ++ rest, rc.2.1) with
          | some r' => some (zadd rc.2.2.1 rc.2.2.2 r')
          | none => none
        | .inr x => match zhand M.2.2.2.2.2.2 pc x with
          | some hp => match zrunF T C M n (hp, l, [.retAddr 0], rc.2.1) with
            | some r' => some (zadd rc.2.2.1 rc.2.2.2 r')
            | none => none
          | none => if zcov M.2.2.2.2.2.2 pc = false then some rc else none
def zXF (T : zTb) (N : Nat) : Nat → Nat → List Value → zH → Option zRs
  | 0, _, _, _ => none
  | d + 1, mi, as, h => match zTms T mi with
    | none => none
    | some M => if zcat as ≤ M.2.2.2.1 then zrunF T (zXF T N d) M N (0, lv_args 0 as, [], h) else none
theorem zrunF_ok {T : zTb} {C : Nat → List Value → zH → Option zRs} {C' : Nat → List Value → zH → zRs → Prop} {M : zM} (hC : ∀ mi as h r, C mi as h = some r → C' mi as h r) : ∀ (n : Nat) (g : zG) (r : zRs), zrunF T C M n g = some r → zRun T C' M n g r := by
  intro n
  induction n with
  | zero => intro g r h; cases h
  | succ n ih =>
    intro g r h
    unfold zrunF at h
    unfold zRun
    split at h
    · cases h
    · next g' dc ds e =>
      rw [e]
      split at h
      · next r' e' => cases h; exact ⟨r', ih _ _ e', rfl⟩
      · cases h
    · next e' e =>
      rw [e]
      cases h
      rfl
    · next mi as pc l rest hh e =>
      rw [e]
      split at h
      · cases h
      · next rc e1 =>
        refine ⟨rc, hC _ _ _ _ e1, ?_⟩
        split at h
        · next v e2 =>
          rw [e2]
          split at h
          · next r' e' => cases h; exact ⟨r', ih _ _ e', rfl⟩
          · cases h
        · next x e2 =>
          rw [e2]
          dsimp only
          split at h
          · next hp e3 =>
            rw [e3]
            split at h
            · next r' e' => cases h; exact ⟨r', ih _ _ e', rfl⟩
            · cases h
          · next e3 =>
            rw [e3]
            split at h
            · next e4 => cases h; exact ⟨e4, rfl⟩
            · cases h
theorem zXF_ok {T : zTb} {N : Nat} : ∀ (d mi : Nat) (as : List Value) (h : zH) (r : zRs), zXF T N d mi as h = some r → zX T d mi as h r := by
  intro d
  induction d with
  | zero => intro mi as h r e; cases e
  | succ d ih =>
    intro mi as h r e
    unfold zXF at e
    split at e
    · cases e
    · next M hM =>
      split at e
      · next hc => exact ⟨M, N, hM, hc, zrunF_ok ih _ _ _ e⟩
      · cases e
def zTest (L : Nat) (xs : Nat → Int32) (d N : Nat) : Option (zO × Nat × Nat × Nat) := (zrunF (qTT L xs .null) (zXF (qTT L xs .null) N d) qmL N (0, [(0, .retAddr 1)], [], [])).map (fun r => (r.1, r.2.1.length, r.2.2.1, r.2.2.2))
end
section
/-! straight pieces of code -/
/-- k steps that stay in the method -/
def zsteps (T : zTb) (M : zM) : Nat → zG → Option (zG × Nat × Nat)
  | 0, g => some (g, 0, 0)
  | k + 1, g => match zstep T M g with
    | some (.inl (g', dc, ds)) => match zsteps T M k g' with
      | some (g2, ec, es) => some (g2, dc + ec, ds + es)
      | none => none
    | _ => none
theorem zsteps_run {T : zTb} {C : Nat → List Value → zH → zRs → Prop} {M : zM} : ∀ (k : Nat) {n : Nat} {g g2 : zG} {dc ds : Nat} {r : zRs}, zsteps T M k g = some (g2, dc, ds) → zRun T C M n g2 r → zRun T C M (n + k) g (zadd dc ds r) := by
  intro k
  induction k with
  | zero =>
    intro n g g2 dc ds r h hr
    cases h
    have e : zadd 0 0 r = r := by unfold zadd; simp
    rw [e]
    exact hr
  | succ k ih =>
    intro n g g2 dc ds r h hr
    unfold zsteps at h
    split at h
    · next g' ec es e1 =>
      split at h
      · next g3 fc fs e2 =>
        cases h
        show zRun T C M ((n + k) + 1) g _
        unfold zRun
        rw [e1]
        refine ⟨_, ih e2 hr, ?_⟩
        unfold zadd
        simp [Nat.add_assoc]
      · cases h
    · cases h
end
section
/-! one instruction of the abstract machine, by its kind; runs of any length -/
def zR (T : zTb) (C : Nat → List Value → zH → zRs → Prop) (M : zM) (g : zG) (r : zRs) : Prop := ∃ n, zRun T C M n g r
section ZRS
variable {T : zTb} {C : Nat → List Value → zH → zRs → Prop} {M : zM} {pc len pc' : Nat} {i : Instr} {l l' : zL} {st st' : List Value} {h h' : zH} {r : zRs}
theorem zS_br (hd : decode M.2.2.1 pc = .ok (i, len)) (hb : zbr pc len i st = some (pc', st')) : zstep T M (pc, l, st, h) = some (.inl ((pc', l, st', h), 0, 0)) := by
  unfold zstep
  simp only [hd, hb]
theorem zS_pure (hd : decode M.2.2.1 pc = .ok (i, len)) (hb : zbr pc len i st = none) (hl : len = zlen i) (h1 : zpure M.2.2.2.1 i l st = some (l', st')) : zstep T M (pc, l, st, h) = some (.inl ((pc + len, l', st', h), 0, 0)) := by
  unfold zstep
  simp only [hd, hb, if_pos hl, h1]
theorem zS_mem (hd : decode M.2.2.1 pc = .ok (i, len)) (hb : zbr pc len i st = none) (hl : len = zlen i) (h1 : zpure M.2.2.2.1 i l st = none) (h2 : zmem T M.1 i h st = some st') : zstep T M (pc, l, st, h) = some (.inl ((pc + len, l, st', h), 0, 0)) := by
  unfold zstep
  simp only [hd, hb, if_pos hl, h1, h2]
theorem zS_wr (hd : decode M.2.2.1 pc = .ok (i, len)) (hb : zbr pc len i st = none) (hl : len = zlen i) (h1 : zpure M.2.2.2.1 i l st = none) (h2 : zmem T M.1 i h st = none) (h3 : zwr T M.1 M.2.2.2.2.2.1 i h st = some (h', st')) : zstep T M (pc, l, st, h) = some (.inl ((pc + len, l, st', h'), 0, 0)) := by
  unfold zstep
  simp only [hd, hb, if_pos hl, h1, h2, h3]
theorem zS_th {xi : Nat} (hd : decode M.2.2.1 pc = .ok (i, len)) (hb : zbr pc len i st = none) (hl : len = zlen i) (h1 : zpure M.2.2.2.1 i l st = none) (h2 : zmem T M.1 i h st = none) (h3 : zwr T M.1 M.2.2.2.2.2.1 i h st = none) (h4 : zth T M.1 M.2.2.1 M.2.2.2.2.2.2 pc i st = some xi) : zstep T M (pc, l, st, h) = some (.inr (.inl (.inr xi, h, 1, 6))) := by
  unfold zstep
  simp only [hd, hb, if_pos hl, h1, h2, h3, h4]
theorem zS_nw {dn : Nat} (hd : decode M.2.2.1 pc = .ok (i, len)) (hb : zbr pc len i st = none) (hl : len = zlen i) (h1 : zpure M.2.2.2.1 i l st = none) (h2 : zmem T M.1 i h st = none) (h3 : zwr T M.1 M.2.2.2.2.2.1 i h st = none) (h4 : zth T M.1 M.2.2.1 M.2.2.2.2.2.2 pc i st = none) (h5 : znw T M.1 i h st = some (h', st', dn)) : zstep T M (pc, l, st, h) = some (.inl ((pc + len, l, st', h'), 1, dn)) := by
  unfold zstep
  simp only [hd, hb, if_pos hl, h1, h2, h3, h4, h5]
theorem zS_oi (hd : decode M.2.2.1 pc = .ok (i, len)) (hb : zbr pc len i st = none) (hl : len = zlen i) (h1 : zpure M.2.2.2.1 i l st = none) (h2 : zmem T M.1 i h st = none) (h3 : zwr T M.1 M.2.2.2.2.2.1 i h st = none) (h4 : zth T M.1 M.2.2.1 M.2.2.2.2.2.2 pc i st = none) (h5 : znw T M.1 i h st = none) (h6 : zoi T M.1 i st = some st') : zstep T M (pc, l, st, h) = some (.inl ((pc + len, l, st', h), 0, 0)) := by
  unfold zstep
  simp only [hd, hb, if_pos hl, h1, h2, h3, h4, h5, h6]
theorem zS_cl {mi : Nat} {as rest : List Value} (hd : decode M.2.2.1 pc = .ok (i, len)) (hb : zbr pc len i st = none) (hl : len = zlen i) (h1 : zpure M.2.2.2.1 i l st = none) (h2 : zmem T M.1 i h st = none) (h3 : zwr T M.1 M.2.2.2.2.2.1 i h st = none) (h4 : zth T M.1 M.2.2.1 M.2.2.2.2.2.2 pc i st = none) (h5 : znw T M.1 i h st = none) (h6 : zoi T M.1 i st = none) (h7 : zcl T M.1 i h st = some (mi, as, rest)) :
    zstep T M (pc, l, st, h) = some (.inr (.inr (mi, as, pc, l, rest, h))) := by
  unfold zstep
  simp only [hd, hb, if_pos hl, h1, h2, h3, h4, h5, h6, h7]
theorem zS_rt {v : Option Value} (hd : decode M.2.2.1 pc = .ok (i, len)) (hb : zbr pc len i st = none) (hl : len = zlen i) (h1 : zpure M.2.2.2.1 i l st = none) (h2 : zmem T M.1 i h st = none) (h3 : zwr T M.1 M.2.2.2.2.2.1 i h st = none) (h4 : zth T M.1 M.2.2.1 M.2.2.2.2.2.2 pc i st = none) (h5 : znw T M.1 i h st = none) (h6 : zoi T M.1 i st = none) (h7 : zcl T M.1 i h st = none) (h8 : zrt M.2.2.2.2.1 i st = some v) :
    zstep T M (pc, l, st, h) = some (.inr (.inl (.inl v, h, 0, 0))) := by
  unfold zstep
  simp only [hd, hb, if_pos hl, h1, h2, h3, h4, h5, h6, h7, h8]
theorem zS_ex (hd : decode M.2.2.1 pc = .ok (i, len)) (hb : zbr pc len i st = none) (hl : len = zlen i) (h1 : zpure M.2.2.2.1 i l st = none) (h2 : zmem T M.1 i h st = none) (h3 : zwr T M.1 M.2.2.2.2.2.1 i h st = none) (h4 : zth T M.1 M.2.2.1 M.2.2.2.2.2.2 pc i st = none) (h5 : znw T M.1 i h st = none) (h6 : zoi T M.1 i st = none) (h7 : zcl T M.1 i h st = none) (h8 : zrt M.2.2.2.2.1 i st = none) (h9 : zText T M.1 i st = some st') :
    zstep T M (pc, l, st, h) = some (.inl ((pc + len, l, st', h), 0, 0)) := by
  unfold zstep
  simp only [hd, hb, if_pos hl, h1, h2, h3, h4, h5, h6, h7, h8, h9]
theorem zadd_0 (r : zRs) : zadd 0 0 r = r := by unfold zadd; simp
theorem zadd_add (a b c d : Nat) (r : zRs) : zadd a b (zadd c d r) = zadd (a + c) (b + d) r := by unfold zadd; simp [Nat.add_assoc]
/-- on by one step -/
theorem zR.on {g g' : zG} (hs : zstep T M g = some (.inl (g', 0, 0))) (k : zR T C M g' r) : zR T C M g r := by
  obtain ⟨n, hn⟩ := k
  refine ⟨n + 1, ?_⟩
  unfold zRun
  rw [hs]
  exact ⟨r, hn, (zadd_0 r).symm⟩
theorem zR.add {g g' : zG} {dc ds : Nat} (hs : zstep T M g = some (.inl (g', dc, ds))) (k : zR T C M g' r) : zR T C M g (zadd dc ds r) := by
  obtain ⟨n, hn⟩ := k
  refine ⟨n + 1, ?_⟩
  unfold zRun
  rw [hs]
  exact ⟨r, hn, rfl⟩
theorem zR.ret {g : zG} {e : zRs} (hs : zstep T M g = some (.inr (.inl e))) : zR T C M g e := by
  refine ⟨1, ?_⟩
  unfold zRun
  rw [hs]
/-- a call that comes back -/
theorem zR.call {g : zG} {mi : Nat} {as rest : List Value} {v : Option Value} {mc ms : Nat} (hs : zstep T M g = some (.inr (.inr (mi, as, pc, l, rest, h)))) (hc : C mi as h (.inl v, h', mc, ms)) (k : zR T C M (pc + 3, l, v.toList ++ rest, h') r) : zR T C M g (zadd mc ms r) := by
  obtain ⟨n, hn⟩ := k
  refine ⟨n + 1, ?_⟩
  unfold zRun
  rw [hs]
  exact ⟨_, hc, r, hn, rfl⟩
/-- a call that throws, past the method -/
theorem zR.thrown {g : zG} {mi x : Nat} {as rest : List Value} {mc ms : Nat} (hs : zstep T M g = some (.inr (.inr (mi, as, pc, l, rest, h)))) (hc : C mi as h (.inr x, h', mc, ms)) (h1 : zhand M.2.2.2.2.2.2 pc x = none) (h2 : zcov M.2.2.2.2.2.2 pc = false) : zR T C M g (.inr x, h', mc, ms) := by
  refine ⟨1, ?_⟩
  unfold zRun
  rw [hs]
  refine ⟨_, hc, ?_⟩
  dsimp only
  rw [h1]
  exact ⟨h2, rfl⟩
/-- a call that throws, caught -/
theorem zR.caught {g : zG} {mi x hp : Nat} {as rest : List Value} {mc ms : Nat} (hs : zstep T M g = some (.inr (.inr (mi, as, pc, l, rest, h)))) (hc : C mi as h (.inr x, h', mc, ms)) (h1 : zhand M.2.2.2.2.2.2 pc x = some hp) (k : zR T C M (hp, l, [.retAddr 0], h') r) : zR T C M g (zadd mc ms r) := by
  obtain ⟨n, hn⟩ := k
  refine ⟨n + 1, ?_⟩
  unfold zRun
  rw [hs]
  refine ⟨_, hc, ?_⟩
  dsimp only
  rw [h1]
  exact ⟨r, hn, rfl⟩
theorem zX.of_R {d mi : Nat} {as : List Value} (hM : zTms T mi = some M) (hc : zcat as ≤ M.2.2.2.1) (k : zR T (zX T d) M (0, lv_args 0 as, [], h) r) : zX T (d + 1) mi as h r := by
  obtain ⟨n, hn⟩ := k
  exact ⟨M, n, hM, hc, hn⟩
end ZRS
end
section
/-! methods of the class: Table.rows -/
set_option maxRecDepth 100000 in
theorem qd_34_0 : decode qm34.2.2.1 0 = .ok (.aload_n 0, 1) := rfl
set_option maxRecDepth 100000 in
theorem qd_34_1 : decode qm34.2.2.1 1 = .ok (.getfield 19, 3) := rfl
set_option maxRecDepth 100000 in
theorem qd_34_4 : decode qm34.2.2.1 4 = .ok (.ireturn, 1) := rfl
set_option maxRecDepth 100000 in
theorem qf_3_19 : qfind (qfl ++ qfn) 3 19 = some (3, 2) := by decide +kernel
theorem zgetf_of {fl : Nat → Option (Nat × Nat)} {ix ci j a : Nat} {h : zH} {fs st : List Value} {v : Value} (h1 : fl ix = some (ci, j)) (h2 : h[a]? = some (.inr (ci, fs))) (h3 : fs[j]? = some v) : zgetf fl ix h (.ref a :: st) = some (v :: st) := by
  unfold zgetf
  simp [h1, h2, h3]
theorem qx_34 {L : Nat} {xs : Nat → Int32} {fv : Value} {d i : Nat} {h : zH} {w c : Value} {n : Int32} (hh : h[i]? = some (.inr (3, [w, c, .int n]))) : zX (qTT L xs fv) (d + 1) 34 [.ref i] h (.inl (some (.int n)), h, 0, 0) := by
  refine zX.of_R (M := qm34) rfl (Nat.le_of_ble_eq_true rfl) ?_
  refine zR.on (zS_pure (l' := [(0, .ref i)]) (st' := [.ref i]) qd_34_0 rfl rfl rfl) ?_
  refine zR.on (zS_mem (st' := [.int n]) qd_34_1 rfl rfl rfl (zgetf_of (ci := 3) (j := 2) qf_3_19 hh rfl)) ?_
  exact zR.ret (zS_rt (v := some (.int n)) qd_34_4 rfl rfl rfl rfl rfl rfl rfl rfl rfl rfl)
end
