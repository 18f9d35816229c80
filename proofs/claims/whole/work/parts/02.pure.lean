/-! the instructions of a method that go on behind themselves, and what they are worth over the machine -/
def zlen : Instr → Nat
  | .bipush _ => 2
  | .sipush _ => 3
  | .iload _ => 2
  | .lload _ => 2
  | .dload _ => 2
  | .aload _ => 2
  | .istore _ => 2
  | .lstore _ => 2
  | .dstore _ => 2
  | .astore _ => 2
  | .iinc _ _ => 3
  | .ldc _ => 2
  | .ldc_w _ => 3
  | .ldc2_w _ => 3
  | .goto _ => 3
  | .ifCond _ _ => 3
  | .if_icmp _ _ => 3
  | .getfield _ => 3
  | .putfield _ => 3
  | .getstatic _ => 3
  | .invokevirtual _ => 3
  | .invokestatic _ => 3
  | .invokespecial _ => 3
  | .new _ => 3
  | .newarray _ => 2
  | _ => 1
def zpure (nL : Nat) (i : Instr) (l : zL) (st : List Value) : Option (zL × List Value) := match i with
  | .iconst n => some (l, .int (Int32.ofInt n) :: st)
  | .bipush n => some (l, .int (Int8.ofInt n).toInt32 :: st)
  | .sipush n => some (l, .int (Int16.ofInt n).toInt32 :: st)
  | .lconst n => some (l, .long (Int64.ofNat (n : Nat)) :: st)
  | .dconst n => if n = 0 then some (l, .double FP.dconst0 :: st) else none
  | .iload_n k => zldI l k st
  | .iload k => zldI l k st
  | .lload_n k => zldL l k st
  | .lload k => zldL l k st
  | .dload_n k => zldD l k st
  | .dload k => zldD l k st
  | .aload_n k => zldA l k st
  | .aload k => zldA l k st
  | .istore_n k => zstI nL l k st
  | .istore k => zstI nL l k st
  | .lstore_n k => zstL nL l k st
  | .lstore k => zstL nL l k st
  | .dstore_n k => zstD nL l k st
  | .dstore k => zstD nL l k st
  | .astore_n k => zstA nL l k st
  | .astore k => zstA nL l k st
  | .iinc k n => zinc nL l k n st
  | .iadd => (zi2 st (fun x y => some (.int (x + y)))).map (fun r => (l, r))
  | .isub => (zi2 st (fun x y => some (.int (x - y)))).map (fun r => (l, r))
  | .imul => (zi2 st (fun x y => some (.int (x * y)))).map (fun r => (l, r))
  | .iand => (zi2 st (fun x y => some (.int (x &&& y)))).map (fun r => (l, r))
  | .ior => (zi2 st (fun x y => some (.int (x ||| y)))).map (fun r => (l, r))
  | .ixor => (zi2 st (fun x y => some (.int (x ^^^ y)))).map (fun r => (l, r))
  | .ishl => (zi2 st (fun x y => some (.int (x <<< (y &&& 31))))).map (fun r => (l, r))
  | .ishr => (zi2 st (fun x y => some (.int (x >>> (y &&& 31))))).map (fun r => (l, r))
  | .iushr => (zi2 st (fun x y => some (.int (x.toUInt32 >>> (y.toUInt32 &&& Int32.toUInt32 31)).toInt32))).map (fun r => (l, r))
  | .ineg => (zi1 st (fun x => some (.int (-x)))).map (fun r => (l, r))
  | .i2l => (zi1 st (fun x => some (.long x.toInt64))).map (fun r => (l, r))
  | .i2d => (zi1 st (fun x => some (.double (FP.i2d x)))).map (fun r => (l, r))
  | .i2c => (zi1 st (fun x => some (.int (x.toUInt32 % 65536).toInt32))).map (fun r => (l, r))
  | .l2i => (zl1 st (fun x => some (.int x.toInt32))).map (fun r => (l, r))
  | .l2d => (zl1 st (fun x => some (.double (FP.l2d x)))).map (fun r => (l, r))
  | .ladd => (zl2 st (fun x y => some (.long (x + y)))).map (fun r => (l, r))
  | .land => (zl2 st (fun x y => some (.long (x &&& y)))).map (fun r => (l, r))
  | .lor => (zl2 st (fun x y => some (.long (x ||| y)))).map (fun r => (l, r))
  | .lcmp => (zl2 st (fun x y => some (.int (lg_cmp x y)))).map (fun r => (l, r))
  | .lshl => (zls st (fun x y => some (.long (x <<< (y.toInt64 &&& 63))))).map (fun r => (l, r))
  | .lshr => (zls st (fun x y => some (.long (x >>> (y.toInt64 &&& 63))))).map (fun r => (l, r))
  | .lushr => (zls st (fun x y => some (.long (x.toUInt64 >>> (y.toInt64.toUInt64 &&& Int64.toUInt64 63)).toInt64))).map (fun r => (l, r))
  | .dneg => (zd1 st (fun x => some (.double (FP.dneg x)))).map (fun r => (l, r))
  | .dmul => (zd2 st (fun x y => zfin (FP.dmul x y))).map (fun r => (l, r))
  | .ddiv => (zd2 st (fun x y => zfin (FP.ddiv x y))).map (fun r => (l, r))
  | .dcmp op => (zd2 st (fun x y => some (.int (Op.cmpValue (FP.dcmp x y) op)))).map (fun r => (l, r))
  | .dup => (zdup st).map (fun r => (l, r))
  | .pop => (zpop st).map (fun r => (l, r))
  | .dup_x1 => (zdupx1 st).map (fun r => (l, r))
  | .dup_x2 => (zdupx2 st).map (fun r => (l, r))
  | .dup2 => (zdup2 st).map (fun r => (l, r))
  | _ => none
theorem zF_i {sa : Nat → Nat} {ad : List Nat} {x : Int32} {r cs : List Value} (h : zF sa ad (.int x :: r) cs) : ∃ cr, cs = .int x :: cr ∧ zF sa ad r cr := by
  cases cs with
  | nil => exact absurd h (by simp [zF])
  | cons c cs =>
    obtain ⟨h1, h2⟩ := h
    cases (show c = .int x from h1)
    exact ⟨cs, rfl, h2⟩
theorem zF_l {sa : Nat → Nat} {ad : List Nat} {x : Int64} {r cs : List Value} (h : zF sa ad (.long x :: r) cs) : ∃ cr, cs = .long x :: cr ∧ zF sa ad r cr := by
  cases cs with
  | nil => exact absurd h (by simp [zF])
  | cons c cs =>
    obtain ⟨h1, h2⟩ := h
    cases (show c = .long x from h1)
    exact ⟨cs, rfl, h2⟩
theorem zF_d {sa : Nat → Nat} {ad : List Nat} {x : UInt64} {r cs : List Value} (h : zF sa ad (.double x :: r) cs) : ∃ cr, cs = .double x :: cr ∧ zF sa ad r cr := by
  cases cs with
  | nil => exact absurd h (by simp [zF])
  | cons c cs =>
    obtain ⟨h1, h2⟩ := h
    cases (show c = .double x from h1)
    exact ⟨cs, rfl, h2⟩
theorem zF_c {sa : Nat → Nat} {ad : List Nat} {v : Value} {r cs : List Value} (h : zF sa ad (v :: r) cs) : ∃ c cr, cs = c :: cr ∧ zV sa ad v c ∧ zF sa ad r cr := by
  cases cs with
  | nil => exact absurd h (by simp [zF])
  | cons c cs => exact ⟨c, cs, rfl, h.1, h.2⟩
theorem zF_n {sa : Nat → Nat} {ad : List Nat} {cs : List Value} (h : zF sa ad [] cs) : cs = [] := by
  cases cs with
  | nil => rfl
  | cons c cs => exact absurd h (by simp [zF])
theorem zi1_inv {sa : Nat → Nat} {ad : List Nat} {st cs st' : List Value} {f : Int32 → Option Value} (h : zi1 st f = some st') (hS : zF sa ad st cs) : ∃ x v r cr, st' = v :: r ∧ f x = some v ∧ cs = .int x :: cr ∧ zF sa ad r cr := by
  unfold zi1 at h
  split at h
  next x r =>
    obtain ⟨cr, rfl, hS2⟩ := zF_i hS
    cases hf : f x with
    | none => rw [hf] at h; cases h
    | some v =>
      rw [hf] at h
      cases h
      exact ⟨_, v, _, cr, rfl, hf, rfl, hS2⟩
  next => cases h
theorem zl1_inv {sa : Nat → Nat} {ad : List Nat} {st cs st' : List Value} {f : Int64 → Option Value} (h : zl1 st f = some st') (hS : zF sa ad st cs) : ∃ x v r cr, st' = v :: r ∧ f x = some v ∧ cs = .long x :: cr ∧ zF sa ad r cr := by
  unfold zl1 at h
  split at h
  next x r =>
    obtain ⟨cr, rfl, hS2⟩ := zF_l hS
    cases hf : f x with
    | none => rw [hf] at h; cases h
    | some v =>
      rw [hf] at h
      cases h
      exact ⟨_, v, _, cr, rfl, hf, rfl, hS2⟩
  next => cases h
theorem zd1_inv {sa : Nat → Nat} {ad : List Nat} {st cs st' : List Value} {f : UInt64 → Option Value} (h : zd1 st f = some st') (hS : zF sa ad st cs) : ∃ x v r cr, st' = v :: r ∧ f x = some v ∧ cs = .double x :: cr ∧ zF sa ad r cr := by
  unfold zd1 at h
  split at h
  next x r =>
    obtain ⟨cr, rfl, hS2⟩ := zF_d hS
    cases hf : f x with
    | none => rw [hf] at h; cases h
    | some v =>
      rw [hf] at h
      cases h
      exact ⟨_, v, _, cr, rfl, hf, rfl, hS2⟩
  next => cases h
theorem zi2_inv {sa : Nat → Nat} {ad : List Nat} {st cs st' : List Value} {f : Int32 → Int32 → Option Value} (h : zi2 st f = some st') (hS : zF sa ad st cs) : ∃ x y v r cr, st' = v :: r ∧ f x y = some v ∧ cs = .int y :: .int x :: cr ∧ zF sa ad r cr := by
  unfold zi2 at h
  split at h
  next y x r =>
    obtain ⟨cr0, rfl, hS1⟩ := zF_i hS
    obtain ⟨cr, rfl, hS2⟩ := zF_i hS1
    cases hf : f x y with
    | none => rw [hf] at h; cases h
    | some v =>
      rw [hf] at h
      cases h
      exact ⟨_, _, v, _, cr, rfl, hf, rfl, hS2⟩
  next => cases h
theorem zl2_inv {sa : Nat → Nat} {ad : List Nat} {st cs st' : List Value} {f : Int64 → Int64 → Option Value} (h : zl2 st f = some st') (hS : zF sa ad st cs) : ∃ x y v r cr, st' = v :: r ∧ f x y = some v ∧ cs = .long y :: .long x :: cr ∧ zF sa ad r cr := by
  unfold zl2 at h
  split at h
  next y x r =>
    obtain ⟨cr0, rfl, hS1⟩ := zF_l hS
    obtain ⟨cr, rfl, hS2⟩ := zF_l hS1
    cases hf : f x y with
    | none => rw [hf] at h; cases h
    | some v =>
      rw [hf] at h
      cases h
      exact ⟨_, _, v, _, cr, rfl, hf, rfl, hS2⟩
  next => cases h
theorem zd2_inv {sa : Nat → Nat} {ad : List Nat} {st cs st' : List Value} {f : UInt64 → UInt64 → Option Value} (h : zd2 st f = some st') (hS : zF sa ad st cs) : ∃ x y v r cr, st' = v :: r ∧ f x y = some v ∧ cs = .double y :: .double x :: cr ∧ zF sa ad r cr := by
  unfold zd2 at h
  split at h
  next y x r =>
    obtain ⟨cr0, rfl, hS1⟩ := zF_d hS
    obtain ⟨cr, rfl, hS2⟩ := zF_d hS1
    cases hf : f x y with
    | none => rw [hf] at h; cases h
    | some v =>
      rw [hf] at h
      cases h
      exact ⟨_, _, v, _, cr, rfl, hf, rfl, hS2⟩
  next => cases h
theorem zls_inv {sa : Nat → Nat} {ad : List Nat} {st cs st' : List Value} {f : Int64 → Int32 → Option Value} (h : zls st f = some st') (hS : zF sa ad st cs) : ∃ x y v r cr, st' = v :: r ∧ f x y = some v ∧ cs = .int y :: .long x :: cr ∧ zF sa ad r cr := by
  unfold zls at h
  split at h
  next y x r =>
    obtain ⟨cr0, rfl, hS1⟩ := zF_i hS
    obtain ⟨cr, rfl, hS2⟩ := zF_l hS1
    cases hf : f x y with
    | none => rw [hf] at h; cases h
    | some v =>
      rw [hf] at h
      cases h
      exact ⟨_, _, v, _, cr, rfl, hf, rfl, hS2⟩
  next => cases h
section ZP
variable {p : Program} {l : Launch} {e : Env} {R : Room} {s : State} {m : MethodId} {args : Array Value} {below : List Frame} {meth : Method} {c : Code} {H : Heap} {locs : List Loc} {cells slots : Nat} {Q : State → Prop}
variable {cc : ByteArray} {pc nL len : Nat} {ls : Array Slot} {sa : Nat → Nat} {ad : List Nat} {a k a' : zL} {st cs st' : List Value}
theorem zpop_v {v w : Value} {r x y : List Value} {b b' : zL} (h : (some (v :: r)).map (fun q => (b, q)) = some (b', x)) : b = b' ∧ x = v :: r := by cases h; exact ⟨rfl, rfl⟩
set_option maxHeartbeats 4000000 in
theorem zpure_ok (hx : p.tables.exec = Jvm.exec) (hb : c.code = cc) {i : Instr} (hdg : decode cc pc = .ok (i, len)) (hlen : len = zlen i) (hL : zLR sa ad a k) (hl : lv_has ls nL k) (hS : zF sa ad st cs)
    (h : zpure nL i a st = some (a', st')) (kk : ∀ (ls' : Array Slot) (k' : zL) (cs' : List Value), zLR sa ad a' k' → lv_has ls' nL k' → zF sa ad st' cs' → W p l e R s m args below meth c H locs cells slots Q (F0 m (pc + len) ls' cs')) :
    W p l e R s m args below meth c H locs cells slots Q (F0 m pc ls cs) := by
  subst hlen
  unfold zpure at h
  split at h
  · cases h
    exact lv_iconst hx hb hdg rfl (kk _ _ _ hL hl ⟨rfl, hS⟩)
  · cases h
    exact lv_bipush hx hb hdg rfl (kk _ _ _ hL hl ⟨rfl, hS⟩)
  · cases h
    exact lv_sipush hx hb hdg rfl (kk _ _ _ hL hl ⟨rfl, hS⟩)
  · cases h
    exact lv_lconst hx hb hdg rfl (kk _ _ _ hL hl ⟨rfl, hS⟩)
  · split at h
    · next e => subst e; cases h; exact lv_dconst0 hx hb hdg (kk _ _ _ hL hl ⟨rfl, hS⟩)
    · cases h
  · unfold zldI at h
    split at h
    · next x hg =>
      cases h
      obtain ⟨j, cv, hj, hv⟩ := zget_at hL hl hg
      cases hv
      exact lv_iload_n hx hb hdg rfl (lv_at hl j hj) (kk _ _ _ hL hl ⟨rfl, hS⟩)
    · cases h
  · unfold zldI at h
    split at h
    · next x hg =>
      cases h
      obtain ⟨j, cv, hj, hv⟩ := zget_at hL hl hg
      cases hv
      exact lv_iload hx hb hdg (lv_at hl j hj) (kk _ _ _ hL hl ⟨rfl, hS⟩)
    · cases h
  · unfold zldL at h
    split at h
    · next x hg =>
      cases h
      obtain ⟨j, cv, hj, hv⟩ := zget_at hL hl hg
      cases hv
      exact lv_lload_n hx hb hdg rfl (lv_at hl j hj) (kk _ _ _ hL hl ⟨rfl, hS⟩)
    · cases h
  · unfold zldL at h
    split at h
    · next x hg =>
      cases h
      obtain ⟨j, cv, hj, hv⟩ := zget_at hL hl hg
      cases hv
      exact lv_lload hx hb hdg (lv_at hl j hj) (kk _ _ _ hL hl ⟨rfl, hS⟩)
    · cases h
  · unfold zldD at h
    split at h
    · next x hg =>
      cases h
      obtain ⟨j, cv, hj, hv⟩ := zget_at hL hl hg
      cases hv
      exact lv_dload_n hx hb hdg rfl (lv_at hl j hj) (kk _ _ _ hL hl ⟨rfl, hS⟩)
    · cases h
  · unfold zldD at h
    split at h
    · next x hg =>
      cases h
      obtain ⟨j, cv, hj, hv⟩ := zget_at hL hl hg
      cases hv
      exact lv_dload hx hb hdg (lv_at hl j hj) (kk _ _ _ hL hl ⟨rfl, hS⟩)
    · cases h
  · unfold zldA at h
    split at h
    · next x hg =>
      cases h
      obtain ⟨j, cv, hj, hv⟩ := zget_at hL hl hg
      obtain ⟨b, hb1, rfl⟩ := id hv
      exact lv_aload_n hx hb hdg rfl (lv_at hl j hj) (kk _ _ _ hL hl ⟨hv, hS⟩)
    · next x hg =>
      cases h
      obtain ⟨j, cv, hj, hv⟩ := zget_at hL hl hg
      obtain ⟨b, rfl, -⟩ := id hv
      exact lv_aload_n hx hb hdg rfl (lv_at hl j hj) (kk _ _ _ hL hl ⟨hv, hS⟩)
    · next hg =>
      cases h
      obtain ⟨j, cv, hj, hv⟩ := zget_at hL hl hg
      cases hv
      exact lv_aload_nN hx hb hdg rfl (lv_at hl j hj) (kk _ _ _ hL hl ⟨rfl, hS⟩)
    · cases h
  · unfold zldA at h
    split at h
    · next x hg =>
      cases h
      obtain ⟨j, cv, hj, hv⟩ := zget_at hL hl hg
      obtain ⟨b, hb1, rfl⟩ := id hv
      exact lv_aload hx hb hdg (lv_at hl j hj) (kk _ _ _ hL hl ⟨hv, hS⟩)
    · next x hg =>
      cases h
      obtain ⟨j, cv, hj, hv⟩ := zget_at hL hl hg
      obtain ⟨b, rfl, -⟩ := id hv
      exact lv_aload hx hb hdg (lv_at hl j hj) (kk _ _ _ hL hl ⟨hv, hS⟩)
    · next hg =>
      cases h
      obtain ⟨j, cv, hj, hv⟩ := zget_at hL hl hg
      cases hv
      exact lv_aloadN hx hb hdg (lv_at hl j hj) (kk _ _ _ hL hl ⟨rfl, hS⟩)
    · cases h
  · unfold zstI at h
    split at h
    · split at h
      · next hn =>
        cases h
        obtain ⟨cr, rfl, hS1⟩ := zF_i hS
        exact lv_istore_n hx hb hdg rfl hl hn rfl (fun ls' hl' => kk _ _ _ (zst1_R hL rfl) hl' hS1)
      · cases h
    · cases h
  · unfold zstI at h
    split at h
    · split at h
      · next hn =>
        cases h
        obtain ⟨cr, rfl, hS2⟩ := zF_i hS
        exact lv_istore hx hb hdg hl hn rfl (fun ls' hl' => kk _ _ _ (zst1_R hL rfl) hl' hS2)
      · cases h
    · cases h
  · unfold zstL at h
    split at h
    · split at h
      · next hn =>
        cases h
        obtain ⟨cr, rfl, hS3⟩ := zF_l hS
        exact lv_lstore_n hx hb hdg rfl hl hn rfl (fun ls' hl' => kk _ _ _ (zst2_R hL rfl) hl' hS3)
      · cases h
    · cases h
  · unfold zstL at h
    split at h
    · split at h
      · next hn =>
        cases h
        obtain ⟨cr, rfl, hS4⟩ := zF_l hS
        exact lv_lstore hx hb hdg hl hn rfl (fun ls' hl' => kk _ _ _ (zst2_R hL rfl) hl' hS4)
      · cases h
    · cases h
  · unfold zstD at h
    split at h
    · split at h
      · next hn =>
        cases h
        obtain ⟨cr, rfl, hS5⟩ := zF_d hS
        exact lv_dstore_n hx hb hdg rfl hl hn rfl (fun ls' hl' => kk _ _ _ (zst2_R hL rfl) hl' hS5)
      · cases h
    · cases h
  · unfold zstD at h
    split at h
    · split at h
      · next hn =>
        cases h
        obtain ⟨cr, rfl, hS6⟩ := zF_d hS
        exact lv_dstore hx hb hdg hl hn rfl (fun ls' hl' => kk _ _ _ (zst2_R hL rfl) hl' hS6)
      · cases h
    · cases h
  · unfold zstA at h
    split at h
    · split at h
      · next hn =>
        cases h
        obtain ⟨cv, cr, rfl, hv, hS7⟩ := zF_c hS
        obtain ⟨b, hb1, rfl⟩ := id hv
        exact lv_astore_n hx hb hdg rfl hl hn rfl (fun ls' hl' => kk _ _ _ (zst1_R hL hv) hl' hS7)
      · cases h
    · split at h
      · next hn =>
        cases h
        obtain ⟨cv, cr, rfl, hv, hS8⟩ := zF_c hS
        obtain ⟨b, rfl, -⟩ := id hv
        exact lv_astore_n hx hb hdg rfl hl hn rfl (fun ls' hl' => kk _ _ _ (zst1_R hL hv) hl' hS8)
      · cases h
    · split at h
      · next hn =>
        cases h
        obtain ⟨cv, cr, rfl, hv, hSn⟩ := zF_c hS
        cases hv
        exact lv_astore_nN hx hb hdg rfl hl hn rfl (fun ls' hl' => kk _ _ _ (zst1_R hL rfl) hl' hSn)
      · cases h
    · cases h
  · unfold zstA at h
    split at h
    · split at h
      · next hn =>
        cases h
        obtain ⟨cv, cr, rfl, hv, hS9⟩ := zF_c hS
        obtain ⟨b, hb1, rfl⟩ := id hv
        exact lv_astore hx hb hdg hl hn rfl (fun ls' hl' => kk _ _ _ (zst1_R hL hv) hl' hS9)
      · cases h
    · split at h
      · next hn =>
        cases h
        obtain ⟨cv, cr, rfl, hv, hS10⟩ := zF_c hS
        obtain ⟨b, rfl, -⟩ := id hv
        exact lv_astore hx hb hdg hl hn rfl (fun ls' hl' => kk _ _ _ (zst1_R hL hv) hl' hS10)
      · cases h
    · split at h
      · next hn =>
        cases h
        obtain ⟨cv, cr, rfl, hv, hSn⟩ := zF_c hS
        cases hv
        exact lv_astoreN hx hb hdg hl hn rfl (fun ls' hl' => kk _ _ _ (zst1_R hL rfl) hl' hSn)
      · cases h
    · cases h
  · unfold zinc at h
    split at h
    · next x hg =>
      split at h
      · next hn =>
        cases h
        obtain ⟨j, cv, hj, hv⟩ := zget_at hL hl hg
        cases hv
        exact lv_iinc hx hb hdg hl hj rfl hn rfl (fun ls' hl' => kk _ _ _ (zst1_R hL rfl) hl' hS)
      · cases h
    · cases h
  · obtain ⟨r, hr, e⟩ := Option.map_eq_some_iff.mp h
    cases e
    obtain ⟨x, y, v, r, cr, rfl, hf, rfl, hS11⟩ := zi2_inv hr hS
    cases hf
    exact lv_iadd hx hb hdg (kk _ _ _ hL hl ⟨rfl, hS11⟩)
  · obtain ⟨r, hr, e⟩ := Option.map_eq_some_iff.mp h
    cases e
    obtain ⟨x, y, v, r, cr, rfl, hf, rfl, hS12⟩ := zi2_inv hr hS
    cases hf
    exact lv_isub hx hb hdg (kk _ _ _ hL hl ⟨rfl, hS12⟩)
  · obtain ⟨r, hr, e⟩ := Option.map_eq_some_iff.mp h
    cases e
    obtain ⟨x, y, v, r, cr, rfl, hf, rfl, hS13⟩ := zi2_inv hr hS
    cases hf
    exact lv_imul hx hb hdg (kk _ _ _ hL hl ⟨rfl, hS13⟩)
  · obtain ⟨r, hr, e⟩ := Option.map_eq_some_iff.mp h
    cases e
    obtain ⟨x, y, v, r, cr, rfl, hf, rfl, hS14⟩ := zi2_inv hr hS
    cases hf
    exact lv_iand hx hb hdg (kk _ _ _ hL hl ⟨rfl, hS14⟩)
  · obtain ⟨r, hr, e⟩ := Option.map_eq_some_iff.mp h
    cases e
    obtain ⟨x, y, v, r, cr, rfl, hf, rfl, hS15⟩ := zi2_inv hr hS
    cases hf
    exact lv_ior hx hb hdg (kk _ _ _ hL hl ⟨rfl, hS15⟩)
  · obtain ⟨r, hr, e⟩ := Option.map_eq_some_iff.mp h
    cases e
    obtain ⟨x, y, v, r, cr, rfl, hf, rfl, hS16⟩ := zi2_inv hr hS
    cases hf
    exact lv_ixor hx hb hdg (kk _ _ _ hL hl ⟨rfl, hS16⟩)
  · obtain ⟨r, hr, e⟩ := Option.map_eq_some_iff.mp h
    cases e
    obtain ⟨x, y, v, r, cr, rfl, hf, rfl, hS17⟩ := zi2_inv hr hS
    cases hf
    exact lv_ishl hx hb hdg (kk _ _ _ hL hl ⟨rfl, hS17⟩)
  · obtain ⟨r, hr, e⟩ := Option.map_eq_some_iff.mp h
    cases e
    obtain ⟨x, y, v, r, cr, rfl, hf, rfl, hS18⟩ := zi2_inv hr hS
    cases hf
    exact lv_ishr hx hb hdg (kk _ _ _ hL hl ⟨rfl, hS18⟩)
  · obtain ⟨r, hr, e⟩ := Option.map_eq_some_iff.mp h
    cases e
    obtain ⟨x, y, v, r, cr, rfl, hf, rfl, hS19⟩ := zi2_inv hr hS
    cases hf
    exact lv_iushr hx hb hdg rfl (kk _ _ _ hL hl ⟨rfl, hS19⟩)
  · obtain ⟨r, hr, e⟩ := Option.map_eq_some_iff.mp h
    cases e
    obtain ⟨x, v, r, cr, rfl, hf, rfl, hS20⟩ := zi1_inv hr hS
    cases hf
    exact lv_ineg hx hb hdg (kk _ _ _ hL hl ⟨rfl, hS20⟩)
  · obtain ⟨r, hr, e⟩ := Option.map_eq_some_iff.mp h
    cases e
    obtain ⟨x, v, r, cr, rfl, hf, rfl, hS21⟩ := zi1_inv hr hS
    cases hf
    exact lv_i2l hx hb hdg rfl (kk _ _ _ hL hl ⟨rfl, hS21⟩)
  · obtain ⟨r, hr, e⟩ := Option.map_eq_some_iff.mp h
    cases e
    obtain ⟨x, v, r, cr, rfl, hf, rfl, hS22⟩ := zi1_inv hr hS
    cases hf
    exact lv_i2d hx hb hdg (kk _ _ _ hL hl ⟨rfl, hS22⟩)
  · obtain ⟨r, hr, e⟩ := Option.map_eq_some_iff.mp h
    cases e
    obtain ⟨x, v, r, cr, rfl, hf, rfl, hS22⟩ := zi1_inv hr hS
    cases hf
    exact lv_i2c hx hb hdg rfl (kk _ _ _ hL hl ⟨rfl, hS22⟩)
  · obtain ⟨r, hr, e⟩ := Option.map_eq_some_iff.mp h
    cases e
    obtain ⟨x, v, r, cr, rfl, hf, rfl, hS23⟩ := zl1_inv hr hS
    cases hf
    exact lv_l2i hx hb hdg rfl (kk _ _ _ hL hl ⟨rfl, hS23⟩)
  · obtain ⟨r, hr, e⟩ := Option.map_eq_some_iff.mp h
    cases e
    obtain ⟨x, v, r, cr, rfl, hf, rfl, hS24⟩ := zl1_inv hr hS
    cases hf
    exact lv_l2d hx hb hdg (kk _ _ _ hL hl ⟨rfl, hS24⟩)
  · obtain ⟨r, hr, e⟩ := Option.map_eq_some_iff.mp h
    cases e
    obtain ⟨x, y, v, r, cr, rfl, hf, rfl, hS25⟩ := zl2_inv hr hS
    cases hf
    exact lv_ladd hx hb hdg (kk _ _ _ hL hl ⟨rfl, hS25⟩)
  · obtain ⟨r, hr, e⟩ := Option.map_eq_some_iff.mp h
    cases e
    obtain ⟨x, y, v, r, cr, rfl, hf, rfl, hS26⟩ := zl2_inv hr hS
    cases hf
    exact lv_land hx hb hdg (kk _ _ _ hL hl ⟨rfl, hS26⟩)
  · obtain ⟨r, hr, e⟩ := Option.map_eq_some_iff.mp h
    cases e
    obtain ⟨x, y, v, r, cr, rfl, hf, rfl, hS27⟩ := zl2_inv hr hS
    cases hf
    exact lv_lor hx hb hdg (kk _ _ _ hL hl ⟨rfl, hS27⟩)
  · obtain ⟨r, hr, e⟩ := Option.map_eq_some_iff.mp h
    cases e
    obtain ⟨x, y, v, r, cr, rfl, hf, rfl, hS28⟩ := zl2_inv hr hS
    cases hf
    exact W.lcmp hx hb hdg (kk _ _ _ hL hl ⟨rfl, hS28⟩)
  · obtain ⟨r, hr, e⟩ := Option.map_eq_some_iff.mp h
    cases e
    obtain ⟨x, y, v, r, cr, rfl, hf, rfl, hS29⟩ := zls_inv hr hS
    cases hf
    exact lv_lshl hx hb hdg rfl (kk _ _ _ hL hl ⟨rfl, hS29⟩)
  · obtain ⟨r, hr, e⟩ := Option.map_eq_some_iff.mp h
    cases e
    obtain ⟨x, y, v, r, cr, rfl, hf, rfl, hS30⟩ := zls_inv hr hS
    cases hf
    exact lv_lshr hx hb hdg rfl (kk _ _ _ hL hl ⟨rfl, hS30⟩)
  · obtain ⟨r, hr, e⟩ := Option.map_eq_some_iff.mp h
    cases e
    obtain ⟨x, y, v, r, cr, rfl, hf, rfl, hS31⟩ := zls_inv hr hS
    cases hf
    exact lv_lushr hx hb hdg rfl (kk _ _ _ hL hl ⟨rfl, hS31⟩)
  · obtain ⟨r, hr, e⟩ := Option.map_eq_some_iff.mp h
    cases e
    obtain ⟨x, v, r, cr, rfl, hf, rfl, hS32⟩ := zd1_inv hr hS
    cases hf
    exact lv_dneg hx hb hdg (kk _ _ _ hL hl ⟨rfl, hS32⟩)
  · obtain ⟨r, hr, e⟩ := Option.map_eq_some_iff.mp h
    cases e
    obtain ⟨x, y, v, r, cr, rfl, hf, rfl, hS33⟩ := zd2_inv hr hS
    unfold zfin at hf
    split at hf
    · next hn => cases hf; exact lv_dmul hx hb hdg hn (kk _ _ _ hL hl ⟨rfl, hS33⟩)
    · cases hf
  · obtain ⟨r, hr, e⟩ := Option.map_eq_some_iff.mp h
    cases e
    obtain ⟨x, y, v, r, cr, rfl, hf, rfl, hS34⟩ := zd2_inv hr hS
    unfold zfin at hf
    split at hf
    · next hn => cases hf; exact lv_ddiv hx hb hdg hn (kk _ _ _ hL hl ⟨rfl, hS34⟩)
    · cases hf
  · obtain ⟨r, hr, e⟩ := Option.map_eq_some_iff.mp h
    cases e
    obtain ⟨x, y, v, r, cr, rfl, hf, rfl, hS35⟩ := zd2_inv hr hS
    cases hf
    exact lv_dcmp hx hb hdg (kk _ _ _ hL hl ⟨rfl, hS35⟩)
  · obtain ⟨r, hr, e⟩ := Option.map_eq_some_iff.mp h
    cases e
    unfold zdup at hr
    split at hr
    · split at hr
      · next hc =>
        cases hr
        obtain ⟨c0, cr0, rfl, h0, hS36⟩ := zF_c hS
        exact lv_dup hx hb hdg (h0.cat.trans hc) (kk _ _ _ hL hl ⟨h0, h0, hS36⟩)
      · cases hr
    · cases hr
  · obtain ⟨r, hr, e⟩ := Option.map_eq_some_iff.mp h
    cases e
    unfold zpop at hr
    split at hr
    · split at hr
      · next hc =>
        cases hr
        obtain ⟨c0, cr0, rfl, h0, hS37⟩ := zF_c hS
        exact lv_pop hx hb hdg (h0.cat.trans hc) (kk _ _ _ hL hl hS37)
      · cases hr
    · cases hr
  · obtain ⟨r, hr, e⟩ := Option.map_eq_some_iff.mp h
    cases e
    unfold zdupx1 at hr
    split at hr
    · split at hr
      · next hc =>
        cases hr
        obtain ⟨c0, cr0, rfl, h0, hS38⟩ := zF_c hS
        obtain ⟨c1, cr1, rfl, h1, hS39⟩ := zF_c hS38
        exact lv_dup_x1 hx hb hdg (h0.cat.trans hc.1) (h1.cat.trans hc.2) (kk _ _ _ hL hl ⟨h0, h1, h0, hS39⟩)
      · cases hr
    · cases hr
  · obtain ⟨r, hr, e⟩ := Option.map_eq_some_iff.mp h
    cases e
    unfold zdupx2 at hr
    split at hr
    · split at hr
      · next hc =>
        cases hr
        obtain ⟨c0, cr0, rfl, h0, hS40⟩ := zF_c hS
        obtain ⟨c1, cr1, rfl, h1, hS41⟩ := zF_c hS40
        obtain ⟨c2, cr2, rfl, h2, hS42⟩ := zF_c hS41
        exact lv_dup_x2 hx hb hdg (h0.cat.trans hc.1) (h1.cat.trans hc.2.1) (h2.cat.trans hc.2.2) (kk _ _ _ hL hl ⟨h0, h1, h2, h0, hS42⟩)
      · cases hr
    · cases hr
  · obtain ⟨r, hr, e⟩ := Option.map_eq_some_iff.mp h
    cases e
    unfold zdup2 at hr
    split at hr
    · split at hr
      · next hc =>
        cases hr
        obtain ⟨c0, cr0, rfl, h0, hS43⟩ := zF_c hS
        obtain ⟨c1, cr1, rfl, h1, hS44⟩ := zF_c hS43
        exact lv_dup2_11 hx hb hdg (h0.cat.trans hc.1) (h1.cat.trans hc.2) (kk _ _ _ hL hl ⟨h0, h1, h0, h1, hS44⟩)
      · cases hr
    · cases hr
  · cases h
end ZP
