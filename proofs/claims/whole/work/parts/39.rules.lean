/-! WHAT IS TO HOLD BEHIND A RUN: qR at a place of a method, qW of a method's call -/
/-- a script (its length, its ints), the formatter, the cells behind the skeleton -/
abbrev qE : Type := Nat × (Nat → Int32) × Value × zH
abbrev qE.T (w : qE) : zTb := qTT w.1 w.2.1 w.2.2.1
/-- what an end costs: a throw makes the exception -/
def qco (o : zO) : Nat × Nat := match o with
  | .inl _ => (0, 0)
  | .inr _ => (1, 6)
def qR (w : qE) (d : Nat) (M : zM) (pc : Nat) (l : zL) (st : List Value) (s : qS) (Q : zO → qS → Prop) : Prop :=
  ∀ l', zsub l l' → ∃ o s', Q o s' ∧ zR w.T (zX w.T d) M (pc, l', st, hp s w.2.2.2) (o, hp s' w.2.2.2, (qco o).1, (qco o).2)
def qW (w : qE) (d : Nat) (mi : Nat) (as : List Value) (s : qS) (Q : zO → qS → Prop) : Prop :=
  ∃ o s', Q o s' ∧ zX w.T d mi as (hp s w.2.2.2) (o, hp s' w.2.2.2, (qco o).1, (qco o).2)
def qPI (f : Int → qS → Prop) (g : Nat → qS → Prop) (o : zO) (s : qS) : Prop := (∃ r, o = .inl (some (qI r)) ∧ f r s) ∨ (∃ k, o = .inr k ∧ g k s)
def qPV (f : qS → Prop) (g : Nat → qS → Prop) (o : zO) (s : qS) : Prop := (o = .inl none ∧ f s) ∨ (∃ k, o = .inr k ∧ g k s)
def qPA (f : Nat → qS → Prop) (g : Nat → qS → Prop) (o : zO) (s : qS) : Prop := (∃ r, o = .inl (some (.retAddr r)) ∧ f r s) ∨ (∃ k, o = .inr k ∧ g k s)
def qPJ (f : Int64 → qS → Prop) (g : Nat → qS → Prop) (o : zO) (s : qS) : Prop := (∃ r, o = .inl (some (.long r)) ∧ f r s) ∨ (∃ k, o = .inr k ∧ g k s)
def qPD (f : UInt64 → qS → Prop) (g : Nat → qS → Prop) (o : zO) (s : qS) : Prop := (∃ r, o = .inl (some (.double r)) ∧ f r s) ∨ (∃ k, o = .inr k ∧ g k s)
section QR
variable {w : qE} {d pc : Nat} {M : zM} {l : zL} {st r : List Value} {s : qS} {Q : zO → qS → Prop}
theorem qR.mono {Q' : zO → qS → Prop} (h : qR w d M pc l st s Q) (k : ∀ o s', Q o s' → Q' o s') : qR w d M pc l st s Q' := by
  intro l' hl
  obtain ⟨o, s', h1, h2⟩ := h l' hl
  exact ⟨o, s', k _ _ h1, h2⟩
theorem qW.mono {mi : Nat} {as : List Value} {Q' : zO → qS → Prop} (h : qW w d mi as s Q) (k : ∀ o s', Q o s' → Q' o s') : qW w d mi as s Q' := by
  obtain ⟨o, s', h1, h2⟩ := h
  exact ⟨o, s', k _ _ h1, h2⟩
/-- fewer known locals -/
theorem qS_sub {l2 : zL} (h : zsub l2 l) (k : qR w d M pc l2 st s Q) : qR w d M pc l st s Q := fun l' hl => k l' (zsub_trans h hl)
theorem qW.of {mi : Nat} {as : List Value} (hM : zTms w.T mi = some M) (hl : lv_args 0 as = l) (hc : zcat as ≤ M.2.2.2.1) (hs : zsub l l) (k : qR w d M 0 l [] s Q) : qW w (d + 1) mi as s Q := by
  obtain ⟨o, s', h1, h2⟩ := k l hs
  exact ⟨o, s', h1, zX.of_R hM hc (by rw [hl]; exact h2)⟩
/-- on by one step that leaves the locals -/
theorem qS_on {pc' : Nat} {st' : List Value} {s1 : qS} (hs : ∀ l', zsub l l' → zstep w.T M (pc, l', st, hp s w.2.2.2) = some (.inl ((pc', l', st', hp s1 w.2.2.2), 0, 0))) (k : qR w d M pc' l st' s1 Q) : qR w d M pc l st s Q := by
  intro l' hl
  obtain ⟨o, s', h1, h2⟩ := k l' hl
  exact ⟨o, s', h1, zR.on (hs l' hl) h2⟩
theorem qS_onl {pc' : Nat} {l2 : zL} {st' : List Value} {s1 : qS} (hs : ∀ l', zsub l l' → ∃ l3, zsub l2 l3 ∧ zstep w.T M (pc, l', st, hp s w.2.2.2) = some (.inl ((pc', l3, st', hp s1 w.2.2.2), 0, 0))) (k : qR w d M pc' l2 st' s1 Q) : qR w d M pc l st s Q := by
  intro l' hl
  obtain ⟨l3, h3, h4⟩ := hs l' hl
  obtain ⟨o, s', h1, h2⟩ := k l3 h3
  exact ⟨o, s', h1, zR.on h4 h2⟩
theorem qS_pure {i : Instr} {len : Nat} {st' : List Value} (hd : decode M.2.2.1 pc = .ok (i, len)) (hb : zbr pc len i st = none) (hlen : len = zlen i) (h : ∀ l', zsub l l' → zpure M.2.2.2.1 i l' st = some (l', st')) (k : qR w d M (pc + len) l st' s Q) : qR w d M pc l st s Q :=
  qS_on (fun l' hl => zS_pure hd hb hlen (h l' hl)) k
theorem qS_iconst {n : Int} (hd : decode M.2.2.1 pc = .ok (.iconst n, 1)) (k : qR w d M (pc + 1) l (qI n :: st) s Q) : qR w d M pc l st s Q := qS_pure hd rfl rfl (fun _ _ => rfl) k
theorem qS_bipush {n : Int} (hd : decode M.2.2.1 pc = .ok (.bipush n, 2)) (e : (Int8.ofInt n).toInt32 = Int32.ofInt n) (k : qR w d M (pc + 2) l (qI n :: st) s Q) : qR w d M pc l st s Q := qS_pure hd rfl rfl (fun _ _ => by show some (_, Value.int (Int8.ofInt n).toInt32 :: st) = _; rw [e]) k
theorem qS_sipush {n : Int} (hd : decode M.2.2.1 pc = .ok (.sipush n, 3)) (e : (Int16.ofInt n).toInt32 = Int32.ofInt n) (k : qR w d M (pc + 3) l (qI n :: st) s Q) : qR w d M pc l st s Q := qS_pure hd rfl rfl (fun _ _ => by show some (_, Value.int (Int16.ofInt n).toInt32 :: st) = _; rw [e]) k
theorem qS_lconst {n : Fin 2} {v : Int64} (hd : decode M.2.2.1 pc = .ok (.lconst n, 1)) (e : Int64.ofNat n = v) (k : qR w d M (pc + 1) l (.long v :: st) s Q) : qR w d M pc l st s Q := qS_pure hd rfl rfl (fun _ _ => by subst e; rfl) k
theorem qS_dconst (hd : decode M.2.2.1 pc = .ok (.dconst 0, 1)) (k : qR w d M (pc + 1) l (.double FP.dconst0 :: st) s Q) : qR w d M pc l st s Q := qS_pure hd rfl rfl (fun _ _ => rfl) k
theorem zldI_of {l' : zL} {i : Nat} {x : Int32} (h : zget l' i = some (.int x)) : zldI l' i st = some (l', .int x :: st) := by unfold zldI; rw [h]
theorem zldL_of {l' : zL} {i : Nat} {x : Int64} (h : zget l' i = some (.long x)) : zldL l' i st = some (l', .long x :: st) := by unfold zldL; rw [h]
theorem zldD_of {l' : zL} {i : Nat} {x : UInt64} (h : zget l' i = some (.double x)) : zldD l' i st = some (l', .double x :: st) := by unfold zldD; rw [h]
theorem zldA_of {l' : zL} {i x : Nat} (h : zget l' i = some (.ref x)) : zldA l' i st = some (l', .ref x :: st) := by unfold zldA; rw [h]
theorem zldO_of {l' : zL} {i x : Nat} (h : zget l' i = some (.retAddr x)) : zldA l' i st = some (l', .retAddr x :: st) := by unfold zldA; rw [h]
theorem qS_iload_n {i : Fin 4} {x : Int32} (hd : decode M.2.2.1 pc = .ok (.iload_n i, 1)) (hg : zget l i = some (.int x)) (k : qR w d M (pc + 1) l (.int x :: st) s Q) : qR w d M pc l st s Q := qS_pure hd rfl rfl (fun _ hl => zldI_of (zsub_get hl hg)) k
theorem qS_iload {i : Nat} {x : Int32} (hd : decode M.2.2.1 pc = .ok (.iload i, 2)) (hg : zget l i = some (.int x)) (k : qR w d M (pc + 2) l (.int x :: st) s Q) : qR w d M pc l st s Q := qS_pure hd rfl rfl (fun _ hl => zldI_of (zsub_get hl hg)) k
theorem qS_lload_n {i : Fin 4} {x : Int64} (hd : decode M.2.2.1 pc = .ok (.lload_n i, 1)) (hg : zget l i = some (.long x)) (k : qR w d M (pc + 1) l (.long x :: st) s Q) : qR w d M pc l st s Q := qS_pure hd rfl rfl (fun _ hl => zldL_of (zsub_get hl hg)) k
theorem qS_lload {i : Nat} {x : Int64} (hd : decode M.2.2.1 pc = .ok (.lload i, 2)) (hg : zget l i = some (.long x)) (k : qR w d M (pc + 2) l (.long x :: st) s Q) : qR w d M pc l st s Q := qS_pure hd rfl rfl (fun _ hl => zldL_of (zsub_get hl hg)) k
theorem qS_dload_n {i : Fin 4} {x : UInt64} (hd : decode M.2.2.1 pc = .ok (.dload_n i, 1)) (hg : zget l i = some (.double x)) (k : qR w d M (pc + 1) l (.double x :: st) s Q) : qR w d M pc l st s Q := qS_pure hd rfl rfl (fun _ hl => zldD_of (zsub_get hl hg)) k
theorem qS_dload {i : Nat} {x : UInt64} (hd : decode M.2.2.1 pc = .ok (.dload i, 2)) (hg : zget l i = some (.double x)) (k : qR w d M (pc + 2) l (.double x :: st) s Q) : qR w d M pc l st s Q := qS_pure hd rfl rfl (fun _ hl => zldD_of (zsub_get hl hg)) k
theorem qS_aload_n {i : Fin 4} {x : Nat} (hd : decode M.2.2.1 pc = .ok (.aload_n i, 1)) (hg : zget l i = some (.ref x)) (k : qR w d M (pc + 1) l (.ref x :: st) s Q) : qR w d M pc l st s Q := qS_pure hd rfl rfl (fun _ hl => zldA_of (zsub_get hl hg)) k
theorem qS_aload {i x : Nat} (hd : decode M.2.2.1 pc = .ok (.aload i, 2)) (hg : zget l i = some (.ref x)) (k : qR w d M (pc + 2) l (.ref x :: st) s Q) : qR w d M pc l st s Q := qS_pure hd rfl rfl (fun _ hl => zldA_of (zsub_get hl hg)) k
theorem qS_oload_n {i : Fin 4} {x : Nat} (hd : decode M.2.2.1 pc = .ok (.aload_n i, 1)) (hg : zget l i = some (.retAddr x)) (k : qR w d M (pc + 1) l (.retAddr x :: st) s Q) : qR w d M pc l st s Q := qS_pure hd rfl rfl (fun _ hl => zldO_of (zsub_get hl hg)) k
theorem qS_oload {i x : Nat} (hd : decode M.2.2.1 pc = .ok (.aload i, 2)) (hg : zget l i = some (.retAddr x)) (k : qR w d M (pc + 2) l (.retAddr x :: st) s Q) : qR w d M pc l st s Q := qS_pure hd rfl rfl (fun _ hl => zldO_of (zsub_get hl hg)) k
/-- a store: what is known behind it -/
theorem qS_st {i : Instr} {len j : Nat} {v : Value} {a : zL} (hd : decode M.2.2.1 pc = .ok (i, len)) (hb : zbr pc len i (v :: st) = none) (hlen : len = zlen i) (h : ∀ l', zpure M.2.2.2.1 i l' (v :: st) = some (zst1 l' j v, st)) (ha : zsub a l) (hk : zok1 j a = true) (k : qR w d M (pc + len) ((j, v) :: a) st s Q) : qR w d M pc l (v :: st) s Q :=
  qS_onl (fun l' hl => ⟨_, zsub_st1 (zsub_trans ha hl) hk, zS_pure hd hb hlen (h l')⟩) k
theorem qS_st2 {i : Instr} {len j : Nat} {v : Value} {a : zL} (hd : decode M.2.2.1 pc = .ok (i, len)) (hb : zbr pc len i (v :: st) = none) (hlen : len = zlen i) (h : ∀ l', zpure M.2.2.2.1 i l' (v :: st) = some (zst2 l' j v, st)) (ha : zsub a l) (hk : zok2 j a = true) (k : qR w d M (pc + len) ((j, v) :: a) st s Q) : qR w d M pc l (v :: st) s Q :=
  qS_onl (fun l' hl => ⟨_, zsub_st2 (zsub_trans ha hl) hk, zS_pure hd hb hlen (h l')⟩) k
theorem qS_istore_n {i : Fin 4} {x : Int32} {a : zL} (hd : decode M.2.2.1 pc = .ok (.istore_n i, 1)) (hi : i < M.2.2.2.1) (ha : zsub a l) (hk : zok1 i a = true) (k : qR w d M (pc + 1) ((i.val, .int x) :: a) st s Q) : qR w d M pc l (.int x :: st) s Q := qS_st hd rfl rfl (fun _ => if_pos hi) ha hk k
theorem qS_istore {i : Nat} {x : Int32} {a : zL} (hd : decode M.2.2.1 pc = .ok (.istore i, 2)) (hi : i < M.2.2.2.1) (ha : zsub a l) (hk : zok1 i a = true) (k : qR w d M (pc + 2) ((i, .int x) :: a) st s Q) : qR w d M pc l (.int x :: st) s Q := qS_st hd rfl rfl (fun _ => if_pos hi) ha hk k
theorem qS_astore_n {i : Fin 4} {x : Nat} {a : zL} (hd : decode M.2.2.1 pc = .ok (.astore_n i, 1)) (hi : i < M.2.2.2.1) (ha : zsub a l) (hk : zok1 i a = true) (k : qR w d M (pc + 1) ((i.val, .ref x) :: a) st s Q) : qR w d M pc l (.ref x :: st) s Q := qS_st hd rfl rfl (fun _ => if_pos hi) ha hk k
theorem qS_ostore_n {i : Fin 4} {x : Nat} {a : zL} (hd : decode M.2.2.1 pc = .ok (.astore_n i, 1)) (hi : i < M.2.2.2.1) (ha : zsub a l) (hk : zok1 i a = true) (k : qR w d M (pc + 1) ((i.val, .retAddr x) :: a) st s Q) : qR w d M pc l (.retAddr x :: st) s Q := qS_st hd rfl rfl (fun _ => if_pos hi) ha hk k
theorem qS_ostore {i : Nat} {x : Nat} {a : zL} (hd : decode M.2.2.1 pc = .ok (.astore i, 2)) (hi : i < M.2.2.2.1) (ha : zsub a l) (hk : zok1 i a = true) (k : qR w d M (pc + 2) ((i, .retAddr x) :: a) st s Q) : qR w d M pc l (.retAddr x :: st) s Q := qS_st hd rfl rfl (fun _ => if_pos hi) ha hk k
theorem qS_lstore_n {i : Fin 4} {x : Int64} {a : zL} (hd : decode M.2.2.1 pc = .ok (.lstore_n i, 1)) (hi : i + 1 < M.2.2.2.1) (ha : zsub a l) (hk : zok2 i a = true) (k : qR w d M (pc + 1) ((i.val, .long x) :: a) st s Q) : qR w d M pc l (.long x :: st) s Q := qS_st2 hd rfl rfl (fun _ => if_pos hi) ha hk k
theorem qS_lstore {i : Nat} {x : Int64} {a : zL} (hd : decode M.2.2.1 pc = .ok (.lstore i, 2)) (hi : i + 1 < M.2.2.2.1) (ha : zsub a l) (hk : zok2 i a = true) (k : qR w d M (pc + 2) ((i, .long x) :: a) st s Q) : qR w d M pc l (.long x :: st) s Q := qS_st2 hd rfl rfl (fun _ => if_pos hi) ha hk k
theorem qS_dstore_n {i : Fin 4} {x : UInt64} {a : zL} (hd : decode M.2.2.1 pc = .ok (.dstore_n i, 1)) (hi : i + 1 < M.2.2.2.1) (ha : zsub a l) (hk : zok2 i a = true) (k : qR w d M (pc + 1) ((i.val, .double x) :: a) st s Q) : qR w d M pc l (.double x :: st) s Q := qS_st2 hd rfl rfl (fun _ => if_pos hi) ha hk k
theorem qS_dstore {i : Nat} {x : UInt64} {a : zL} (hd : decode M.2.2.1 pc = .ok (.dstore i, 2)) (hi : i + 1 < M.2.2.2.1) (ha : zsub a l) (hk : zok2 i a = true) (k : qR w d M (pc + 2) ((i, .double x) :: a) st s Q) : qR w d M pc l (.double x :: st) s Q := qS_st2 hd rfl rfl (fun _ => if_pos hi) ha hk k
theorem qS_iinc {i : Nat} {n v : Int} {a : zL} (hd : decode M.2.2.1 pc = .ok (.iinc i n, 3)) (hi : i < M.2.2.2.1) (hg : zget l i = some (qI v)) (ha : zsub a l) (hk : zok1 i a = true) (k : qR w d M (pc + 3) ((i, qI (v + n)) :: a) st s Q) : qR w d M pc l st s Q :=
  qS_onl (fun l' hl => ⟨_, zsub_st1 (v := qI (v + n)) (zsub_trans ha hl) hk, zS_pure hd rfl rfl (by
    show zinc M.2.2.2.1 l' i n st = _
    unfold zinc
    rw [zsub_get hl hg]
    simp only [if_pos hi, qi_add])⟩) k
theorem qS_i2 {i : Instr} {x y v : Int32} (hd : decode M.2.2.1 pc = .ok (i, 1)) (hb : zbr pc 1 i (.int y :: .int x :: st) = none) (hlen : 1 = zlen i) (h : ∀ l', zpure M.2.2.2.1 i l' (.int y :: .int x :: st) = some (l', .int v :: st)) (k : qR w d M (pc + 1) l (.int v :: st) s Q) : qR w d M pc l (.int y :: .int x :: st) s Q := qS_pure hd hb hlen (fun l' _ => h l') k
theorem qS_iadd {a b : Int} (hd : decode M.2.2.1 pc = .ok (.iadd, 1)) (k : qR w d M (pc + 1) l (qI (a + b) :: st) s Q) : qR w d M pc l (qI b :: qI a :: st) s Q := qS_i2 (v := Int32.ofInt (a + b)) hd rfl rfl (fun _ => by rw [← qi_add]; rfl) k
theorem qS_isub {a b : Int} (hd : decode M.2.2.1 pc = .ok (.isub, 1)) (k : qR w d M (pc + 1) l (qI (a - b) :: st) s Q) : qR w d M pc l (qI b :: qI a :: st) s Q := qS_i2 (v := Int32.ofInt (a - b)) hd rfl rfl (fun _ => by rw [← qi_sub]; rfl) k
theorem qS_imul {a b : Int} (hd : decode M.2.2.1 pc = .ok (.imul, 1)) (k : qR w d M (pc + 1) l (qI (a * b) :: st) s Q) : qR w d M pc l (qI b :: qI a :: st) s Q := qS_i2 (v := Int32.ofInt (a * b)) hd rfl rfl (fun _ => by rw [← qi_mul]; rfl) k
theorem qS_iand {a b : Int} (hd : decode M.2.2.1 pc = .ok (.iand, 1)) (k : qR w d M (pc + 1) l (qI (qand a b) :: st) s Q) : qR w d M pc l (qI b :: qI a :: st) s Q := qS_i2 (v := Int32.ofInt (qand a b)) hd rfl rfl (fun _ => by rw [← qi_and]; rfl) k
theorem qS_ior {a b : Int} (hd : decode M.2.2.1 pc = .ok (.ior, 1)) (k : qR w d M (pc + 1) l (qI (qor a b) :: st) s Q) : qR w d M pc l (qI b :: qI a :: st) s Q := qS_i2 (v := Int32.ofInt (qor a b)) hd rfl rfl (fun _ => by rw [← qi_or]; rfl) k
theorem qS_ishl {a b : Int} (hd : decode M.2.2.1 pc = .ok (.ishl, 1)) (k : qR w d M (pc + 1) l (qI (qshl a b) :: st) s Q) : qR w d M pc l (qI b :: qI a :: st) s Q := qS_i2 (v := Int32.ofInt (qshl a b)) hd rfl rfl (fun _ => by rw [← qi_shl]; rfl) k
theorem qS_ishr {a b : Int} (hd : decode M.2.2.1 pc = .ok (.ishr, 1)) (k : qR w d M (pc + 1) l (qI (qshr a b) :: st) s Q) : qR w d M pc l (qI b :: qI a :: st) s Q := qS_i2 (v := Int32.ofInt (qshr a b)) hd rfl rfl (fun _ => by rw [← qi_shr]; rfl) k
theorem qS_iushr {a b : Int} (hd : decode M.2.2.1 pc = .ok (.iushr, 1)) (k : qR w d M (pc + 1) l (qI (qushr a b) :: st) s Q) : qR w d M pc l (qI b :: qI a :: st) s Q := qS_i2 (v := Int32.ofInt (qushr a b)) hd rfl rfl (fun _ => by rw [← qi_ushr]; rfl) k
theorem qS_ineg {a : Int} (hd : decode M.2.2.1 pc = .ok (.ineg, 1)) (k : qR w d M (pc + 1) l (qI (-a) :: st) s Q) : qR w d M pc l (qI a :: st) s Q := qS_pure hd rfl rfl (fun _ _ => by rw [qI, qI, ← qi_neg]; rfl) k
theorem qS_pop {v : Value} (hd : decode M.2.2.1 pc = .ok (.pop, 1)) (hv : v.category = 1) (k : qR w d M (pc + 1) l st s Q) : qR w d M pc l (v :: st) s Q := qS_pure hd rfl rfl (fun _ _ => by show (if v.category = 1 then some st else none).map _ = _; rw [if_pos hv]; rfl) k
theorem qS_dup {v : Value} (hd : decode M.2.2.1 pc = .ok (.dup, 1)) (hv : v.category = 1) (k : qR w d M (pc + 1) l (v :: v :: st) s Q) : qR w d M pc l (v :: st) s Q := qS_pure hd rfl rfl (fun _ _ => by show (if v.category = 1 then some (v :: v :: st) else none).map _ = _; rw [if_pos hv]; rfl) k
theorem qS_dup_x1 {v u : Value} (hd : decode M.2.2.1 pc = .ok (.dup_x1, 1)) (hv : v.category = 1 ∧ u.category = 1) (k : qR w d M (pc + 1) l (v :: u :: v :: st) s Q) : qR w d M pc l (v :: u :: st) s Q := qS_pure hd rfl rfl (fun _ _ => by show (if v.category = 1 ∧ u.category = 1 then some (v :: u :: v :: st) else none).map _ = _; rw [if_pos hv]; rfl) k
/-- wide ones and doubles, as they are -/
theorem qS_p1 {i : Instr} {v u : Value} (hd : decode M.2.2.1 pc = .ok (i, 1)) (hb : zbr pc 1 i (v :: st) = none) (hlen : 1 = zlen i) (h : ∀ l', zpure M.2.2.2.1 i l' (v :: st) = some (l', u :: st)) (k : qR w d M (pc + 1) l (u :: st) s Q) : qR w d M pc l (v :: st) s Q := qS_pure hd hb hlen (fun l' _ => h l') k
theorem qS_p2 {i : Instr} {v v2 u : Value} (hd : decode M.2.2.1 pc = .ok (i, 1)) (hb : zbr pc 1 i (v :: v2 :: st) = none) (hlen : 1 = zlen i) (h : ∀ l', zpure M.2.2.2.1 i l' (v :: v2 :: st) = some (l', u :: st)) (k : qR w d M (pc + 1) l (u :: st) s Q) : qR w d M pc l (v :: v2 :: st) s Q := qS_pure hd hb hlen (fun l' _ => h l') k
/-- branches -/
theorem qS_br {i : Instr} {len pc' : Nat} {st' : List Value} (hd : decode M.2.2.1 pc = .ok (i, len)) (hb : zbr pc len i st = some (pc', st')) (k : qR w d M pc' l st' s Q) : qR w d M pc l st s Q := qS_on (fun _ _ => zS_br hd hb) k
theorem qS_goto {off : Int} {t : Nat} (hd : decode M.2.2.1 pc = .ok (.goto off, 3)) (ht : ztgt pc off = some t) (k : qR w d M t l st s Q) : qR w d M pc l st s Q := qS_br hd (by show (if 3 = 3 then (ztgt pc off).map _ else none) = _; rw [if_pos rfl, ht]; rfl) k
theorem qS_icmp {c : Jvm.ClassFile.Cond} {off : Int} {t : Nat} {x y : Int32} (hd : decode M.2.2.1 pc = .ok (.if_icmp c off, 3)) (ht : ztgt pc off = some t) (k : qR w d M (zcnd c x y t (pc + 3)) l st s Q) : qR w d M pc l (.int y :: .int x :: st) s Q := qS_br hd (by show (if 3 = 3 then (ztgt pc off).map _ else none) = _; rw [if_pos rfl, ht]; rfl) k
theorem qS_if {c : Jvm.ClassFile.Cond} {off : Int} {t : Nat} {x : Int32} (hd : decode M.2.2.1 pc = .ok (.ifCond c off, 3)) (ht : ztgt pc off = some t) (k : qR w d M (zcnd c x 0 t (pc + 3)) l st s Q) : qR w d M pc l (.int x :: st) s Q := qS_br hd (by show (if 3 = 3 then (ztgt pc off).map _ else none) = _; rw [if_pos rfl, ht]; rfl) k
theorem zcnd_eq {a b : Int} {t f : Nat} (ha : Rg a) (hb : Rg b) (P : Nat → Prop) (h1 : a = b → P t) (h2 : a ≠ b → P f) : P (zcnd .eq (Int32.ofInt a) (Int32.ofInt b) t f) := by
  unfold zcnd; dsimp only
  by_cases h : a = b
  · rw [if_pos ((qi_eq ha hb).mpr h)]; exact h1 h
  · rw [if_neg (fun c => h ((qi_eq ha hb).mp c))]; exact h2 h
theorem zcnd_ne {a b : Int} {t f : Nat} (ha : Rg a) (hb : Rg b) (P : Nat → Prop) (h1 : a = b → P f) (h2 : a ≠ b → P t) : P (zcnd .ne (Int32.ofInt a) (Int32.ofInt b) t f) := by
  unfold zcnd; dsimp only
  by_cases h : a = b
  · rw [if_pos ((qi_eq ha hb).mpr h)]; exact h1 h
  · rw [if_neg (fun c => h ((qi_eq ha hb).mp c))]; exact h2 h
theorem zcnd_lt {a b : Int} {t f : Nat} (ha : Rg a) (hb : Rg b) (P : Nat → Prop) (h1 : a < b → P t) (h2 : b ≤ a → P f) : P (zcnd .lt (Int32.ofInt a) (Int32.ofInt b) t f) := by
  unfold zcnd; dsimp only
  by_cases h : a < b
  · rw [if_pos ((qi_lt ha hb).mpr h)]; exact h1 h
  · rw [if_neg (fun c => h ((qi_lt ha hb).mp c))]; exact h2 (by omega)
theorem zcnd_ge {a b : Int} {t f : Nat} (ha : Rg a) (hb : Rg b) (P : Nat → Prop) (h1 : a < b → P f) (h2 : b ≤ a → P t) : P (zcnd .ge (Int32.ofInt a) (Int32.ofInt b) t f) := by
  unfold zcnd; dsimp only
  by_cases h : a < b
  · rw [if_neg (fun c => by have := (qi_le hb ha).mp c; omega)]; exact h1 h
  · rw [if_pos ((qi_le hb ha).mpr (by omega))]; exact h2 (by omega)
theorem zcnd_gt {a b : Int} {t f : Nat} (ha : Rg a) (hb : Rg b) (P : Nat → Prop) (h1 : b < a → P t) (h2 : a ≤ b → P f) : P (zcnd .gt (Int32.ofInt a) (Int32.ofInt b) t f) := by
  unfold zcnd; dsimp only
  by_cases h : b < a
  · rw [if_pos ((qi_lt hb ha).mpr h)]; exact h1 h
  · rw [if_neg (fun c => h ((qi_lt hb ha).mp c))]; exact h2 (by omega)
theorem zcnd_le {a b : Int} {t f : Nat} (ha : Rg a) (hb : Rg b) (P : Nat → Prop) (h1 : b < a → P f) (h2 : a ≤ b → P t) : P (zcnd .le (Int32.ofInt a) (Int32.ofInt b) t f) := by
  unfold zcnd; dsimp only
  by_cases h : b < a
  · rw [if_neg (fun c => by have := (qi_le ha hb).mp c; omega)]; exact h1 h
  · rw [if_pos ((qi_le ha hb).mpr (by omega))]; exact h2 (by omega)
/-- returns and throws -/
theorem qS_rt {i : Instr} {len : Nat} {v : Option Value} (hd : decode M.2.2.1 pc = .ok (i, len)) (hb : zbr pc len i st = none) (hl : len = zlen i) (h1 : ∀ l', zpure M.2.2.2.1 i l' st = none) (h2 : ∀ h, zmem w.T M.1 i h st = none) (h3 : ∀ h, zwr w.T M.1 M.2.2.2.2.2.1 i h st = none) (h4 : zth w.T M.1 M.2.2.1 M.2.2.2.2.2.2 pc i st = none) (h5 : ∀ h, znw w.T M.1 i h st = none) (h6 : zoi w.T M.1 i st = none) (h7 : ∀ h, zcl w.T M.1 i h st = none) (h8 : zrt M.2.2.2.2.1 i st = some v) (k : Q (.inl v) s) : qR w d M pc l st s Q :=
  fun l' _ => ⟨.inl v, s, k, zR.ret (zS_rt hd hb hl (h1 l') (h2 _) (h3 _) h4 (h5 _) h6 (h7 _) h8)⟩
theorem qS_ireturn {x : Int32} (hd : decode M.2.2.1 pc = .ok (.ireturn, 1)) (ht : M.2.2.2.2.1 = some .int) (k : Q (.inl (some (.int x))) s) : qR w d M pc l [.int x] s Q := qS_rt hd rfl rfl (fun _ => rfl) (fun _ => rfl) (fun _ => rfl) rfl (fun _ => rfl) rfl (fun _ => rfl) (by rw [ht]; rfl) k
theorem qS_zreturn {v : Int} (hd : decode M.2.2.1 pc = .ok (.ireturn, 1)) (ht : M.2.2.2.2.1 = some .boolean) (hv : v = 0 ∨ v = 1) (k : Q (.inl (some (qI v))) s) : qR w d M pc l [qI v] s Q := qS_rt (v := some (qI v)) hd rfl rfl (fun _ => rfl) (fun _ => rfl) (fun _ => rfl) rfl (fun _ => rfl) rfl (fun _ => rfl) (by
  rw [ht]
  rcases hv with rfl | rfl <;> rfl) k
theorem qS_vreturn (hd : decode M.2.2.1 pc = .ok (.return_, 1)) (ht : M.2.2.2.2.1 = none) (k : Q (.inl none) s) : qR w d M pc l [] s Q := qS_rt hd rfl rfl (fun _ => rfl) (fun _ => rfl) (fun _ => rfl) rfl (fun _ => rfl) rfl (fun _ => rfl) (by rw [ht]; rfl) k
theorem qS_lreturn {x : Int64} (hd : decode M.2.2.1 pc = .ok (.lreturn, 1)) (ht : M.2.2.2.2.1 = some .long) (k : Q (.inl (some (.long x))) s) : qR w d M pc l [.long x] s Q := qS_rt hd rfl rfl (fun _ => rfl) (fun _ => rfl) (fun _ => rfl) rfl (fun _ => rfl) rfl (fun _ => rfl) (by rw [ht]; rfl) k
theorem qS_dreturn {x : UInt64} (hd : decode M.2.2.1 pc = .ok (.dreturn, 1)) (ht : M.2.2.2.2.1 = some .double) (k : Q (.inl (some (.double x))) s) : qR w d M pc l [.double x] s Q := qS_rt hd rfl rfl (fun _ => rfl) (fun _ => rfl) (fun _ => rfl) rfl (fun _ => rfl) rfl (fun _ => rfl) (by rw [ht]; rfl) k
theorem qS_oreturn {x : Nat} {c : String} (hd : decode M.2.2.1 pc = .ok (.areturn, 1)) (ht : M.2.2.2.2.1 = some (.object c)) (k : Q (.inl (some (.retAddr x))) s) : qR w d M pc l [.retAddr x] s Q := qS_rt hd rfl rfl (fun _ => rfl) (fun _ => rfl) (fun _ => rfl) rfl (fun _ => rfl) rfl (fun _ => rfl) (by rw [ht]; rfl) k
theorem qS_throw {ix xi : Nat} (hd : decode M.2.2.1 pc = .ok (.new ix, 3)) (h4 : zth w.T M.1 M.2.2.1 M.2.2.2.2.2.2 pc (.new ix) st = some xi) (k : Q (.inr xi) s) : qR w d M pc l st s Q :=
  fun l' _ => ⟨.inr xi, s, k, zR.ret (zS_th hd rfl rfl rfl rfl rfl h4)⟩
/-- calls -/
theorem qS_cl {i : Instr} {mi e : Nat} {as : List Value} {Q' : zO → qS → Prop} (hd : decode M.2.2.1 pc = .ok (i, 3)) (hb : zbr pc 3 i st = none) (hlen : 3 = zlen i) (h1 : ∀ l', zpure M.2.2.2.1 i l' st = none) (h2 : ∀ h, zmem w.T M.1 i h st = none) (h3 : ∀ h, zwr w.T M.1 M.2.2.2.2.2.1 i h st = none) (h4 : zth w.T M.1 M.2.2.1 M.2.2.2.2.2.2 pc i st = none) (h5 : ∀ h, znw w.T M.1 i h st = none) (h6 : zoi w.T M.1 i st = none)
    (h7 : zcl w.T M.1 i (hp s w.2.2.2) st = some (mi, as, r)) (hh : M.2.2.2.2.2.2 = []) (he : e ≤ d) (H : qW w e mi as s Q')
    (k1 : ∀ v s', Q' (.inl v) s' → qR w d M (pc + 3) l (v.toList ++ r) s' Q) (k2 : ∀ x s', Q' (.inr x) s' → Q (.inr x) s') : qR w d M pc l st s Q := by
  intro l' hl
  obtain ⟨o, s1, q1, q2⟩ := H
  have hs := zS_cl (l := l') hd hb hlen (h1 l') (h2 _) (h3 _) h4 (h5 _) h6 h7
  have q2 := q2.mono he
  cases o with
  | inl v =>
    obtain ⟨o, s2, q3, q4⟩ := k1 v s1 q1 l' hl
    refine ⟨o, s2, q3, ?_⟩
    have := zR.call hs q2 q4
    unfold zadd at this
    simpa [qco] using this
  | inr x =>
    exact ⟨.inr x, s1, k2 x s1 q1, zR.thrown hs q2 (by rw [hh]; rfl) (by rw [hh]; rfl)⟩
theorem zcl_s {T : zTb} {k ix mi n : Nat} {as : List Value} {h : zH} (hm : zTml T k ix = some (mi, 0, n)) (ha : zargs n st = some (as, r)) (hz : zcat r ≤ 16) : zcl T k (.invokestatic ix) h st = some (mi, as, r) := by
  unfold zcl; simp only [hm, ha, if_pos hz]
theorem zcl_v {T : zTb} {k ix mi n b : Nat} {as fs : List Value} {h : zH} {M' : zM} (hm : zTml T k ix = some (mi, 1, n)) (ha : zargs n st = some (as, .ref b :: r)) (hM : zTms T mi = some M') (hb : h[b]? = some (.inr (M'.1, fs))) (hz : zcat r ≤ 16) : zcl T k (.invokevirtual ix) h st = some (mi, .ref b :: as, r) := by
  unfold zcl; simp only [hm, ha, hM, hb, hz, and_self, if_true]
theorem zcl_o {T : zTb} {k ix mi n b : Nat} {as : List Value} {h : zH} {M' : zM} (hm : zTml T k ix = some (mi, 1, n)) (ha : zargs n st = some (as, .retAddr b :: r)) (hM : zTms T mi = some M') (hb : zTsk T b = some M'.1) (hz : zcat r ≤ 16) : zcl T k (.invokevirtual ix) h st = some (mi, .retAddr b :: as, r) := by
  unfold zcl; simp only [hm, ha, hM, hb, hz, and_self, if_true]
end QR
