/-! RUNS over any heap: for the constructors, the law and its helpers (the rules of 39 to 41, over a heap of any shape and with what the ends cost) -/
def yR (w : qE) (d : Nat) (M : zM) (pc : Nat) (l : zL) (st : List Value) (h : zH) (R : zRs → Prop) : Prop := ∀ l', zsub l l' → ∃ r, R r ∧ zR w.T (zX w.T d) M (pc, l', st, h) r
section YR
variable {w : qE} {d pc : Nat} {M : zM} {l : zL} {st r : List Value} {Hp Hp1 : zH} {R : zRs → Prop}
theorem yR.mono {R' : zRs → Prop} (h : yR w d M pc l st Hp R) (k : ∀ r, R r → R' r) : yR w d M pc l st Hp R' := by
  intro l' hl
  obtain ⟨r, h1, h2⟩ := h l' hl
  exact ⟨r, k _ h1, h2⟩
theorem yS_sub {l2 : zL} (h : zsub l2 l) (k : yR w d M pc l2 st Hp R) : yR w d M pc l st Hp R := fun l' hl => k l' (zsub_trans h hl)
theorem yS_on {pc' : Nat} {st' : List Value} {Hp1 : zH} (hs : ∀ l', zsub l l' → zstep w.T M (pc, l', st, Hp) = some (.inl ((pc', l', st', Hp1), 0, 0))) (k : yR w d M pc' l st' Hp1 R) : yR w d M pc l st Hp R := by
  intro l' hl
  obtain ⟨x, h1, h2⟩ := k l' hl
  exact ⟨x, h1, zR.on (hs l' hl) h2⟩
theorem yS_onl {pc' : Nat} {l2 : zL} {st' : List Value} {Hp1 : zH} (hs : ∀ l', zsub l l' → ∃ l3, zsub l2 l3 ∧ zstep w.T M (pc, l', st, Hp) = some (.inl ((pc', l3, st', Hp1), 0, 0))) (k : yR w d M pc' l2 st' Hp1 R) : yR w d M pc l st Hp R := by
  intro l' hl
  obtain ⟨l3, h3, h4⟩ := hs l' hl
  obtain ⟨x, h1, h2⟩ := k l3 h3
  exact ⟨x, h1, zR.on h4 h2⟩
theorem yS_pure {i : Instr} {len : Nat} {st' : List Value} (hd : decode M.2.2.1 pc = .ok (i, len)) (hb : zbr pc len i st = none) (hlen : len = zlen i) (h : ∀ l', zsub l l' → zpure M.2.2.2.1 i l' st = some (l', st')) (k : yR w d M (pc + len) l st' Hp R) : yR w d M pc l st Hp R :=
  yS_on (fun l' hl => zS_pure hd hb hlen (h l' hl)) k
theorem yS_iconst {n : Int} (hd : decode M.2.2.1 pc = .ok (.iconst n, 1)) (k : yR w d M (pc + 1) l (qI n :: st) Hp R) : yR w d M pc l st Hp R := yS_pure hd rfl rfl (fun _ _ => rfl) k
theorem yS_bipush {n : Int} (hd : decode M.2.2.1 pc = .ok (.bipush n, 2)) (e : (Int8.ofInt n).toInt32 = Int32.ofInt n) (k : yR w d M (pc + 2) l (qI n :: st) Hp R) : yR w d M pc l st Hp R := yS_pure hd rfl rfl (fun _ _ => by show some (_, Value.int (Int8.ofInt n).toInt32 :: st) = _; rw [e]) k
theorem yS_sipush {n : Int} (hd : decode M.2.2.1 pc = .ok (.sipush n, 3)) (e : (Int16.ofInt n).toInt32 = Int32.ofInt n) (k : yR w d M (pc + 3) l (qI n :: st) Hp R) : yR w d M pc l st Hp R := yS_pure hd rfl rfl (fun _ _ => by show some (_, Value.int (Int16.ofInt n).toInt32 :: st) = _; rw [e]) k
theorem yS_iload_n {i : Fin 4} {x : Int32} (hd : decode M.2.2.1 pc = .ok (.iload_n i, 1)) (hg : zget l i = some (.int x)) (k : yR w d M (pc + 1) l (.int x :: st) Hp R) : yR w d M pc l st Hp R := yS_pure hd rfl rfl (fun _ hl => zldI_of (zsub_get hl hg)) k
theorem yS_iload {i : Nat} {x : Int32} (hd : decode M.2.2.1 pc = .ok (.iload i, 2)) (hg : zget l i = some (.int x)) (k : yR w d M (pc + 2) l (.int x :: st) Hp R) : yR w d M pc l st Hp R := yS_pure hd rfl rfl (fun _ hl => zldI_of (zsub_get hl hg)) k
theorem yS_dload {i : Nat} {x : UInt64} (hd : decode M.2.2.1 pc = .ok (.dload i, 2)) (hg : zget l i = some (.double x)) (k : yR w d M (pc + 2) l (.double x :: st) Hp R) : yR w d M pc l st Hp R := yS_pure hd rfl rfl (fun _ hl => zldD_of (zsub_get hl hg)) k
theorem yS_aload_n {i : Fin 4} {x : Nat} (hd : decode M.2.2.1 pc = .ok (.aload_n i, 1)) (hg : zget l i = some (.ref x)) (k : yR w d M (pc + 1) l (.ref x :: st) Hp R) : yR w d M pc l st Hp R := yS_pure hd rfl rfl (fun _ hl => zldA_of (zsub_get hl hg)) k
theorem yS_aload {i x : Nat} (hd : decode M.2.2.1 pc = .ok (.aload i, 2)) (hg : zget l i = some (.ref x)) (k : yR w d M (pc + 2) l (.ref x :: st) Hp R) : yR w d M pc l st Hp R := yS_pure hd rfl rfl (fun _ hl => zldA_of (zsub_get hl hg)) k
theorem yS_oload_n {i : Fin 4} {x : Nat} (hd : decode M.2.2.1 pc = .ok (.aload_n i, 1)) (hg : zget l i = some (.retAddr x)) (k : yR w d M (pc + 1) l (.retAddr x :: st) Hp R) : yR w d M pc l st Hp R := yS_pure hd rfl rfl (fun _ hl => zldO_of (zsub_get hl hg)) k
theorem yS_oload {i x : Nat} (hd : decode M.2.2.1 pc = .ok (.aload i, 2)) (hg : zget l i = some (.retAddr x)) (k : yR w d M (pc + 2) l (.retAddr x :: st) Hp R) : yR w d M pc l st Hp R := yS_pure hd rfl rfl (fun _ hl => zldO_of (zsub_get hl hg)) k
theorem yS_st {i : Instr} {len j : Nat} {v : Value} {a : zL} (hd : decode M.2.2.1 pc = .ok (i, len)) (hb : zbr pc len i (v :: st) = none) (hlen : len = zlen i) (h : ∀ l', zpure M.2.2.2.1 i l' (v :: st) = some (zst1 l' j v, st)) (ha : zsub a l) (hk : zok1 j a = true) (k : yR w d M (pc + len) ((j, v) :: a) st Hp R) : yR w d M pc l (v :: st) Hp R :=
  yS_onl (fun l' hl => ⟨_, zsub_st1 (zsub_trans ha hl) hk, zS_pure hd hb hlen (h l')⟩) k
theorem yS_st2 {i : Instr} {len j : Nat} {v : Value} {a : zL} (hd : decode M.2.2.1 pc = .ok (i, len)) (hb : zbr pc len i (v :: st) = none) (hlen : len = zlen i) (h : ∀ l', zpure M.2.2.2.1 i l' (v :: st) = some (zst2 l' j v, st)) (ha : zsub a l) (hk : zok2 j a = true) (k : yR w d M (pc + len) ((j, v) :: a) st Hp R) : yR w d M pc l (v :: st) Hp R :=
  yS_onl (fun l' hl => ⟨_, zsub_st2 (zsub_trans ha hl) hk, zS_pure hd hb hlen (h l')⟩) k
theorem yS_istore_n {i : Fin 4} {x : Int32} {a : zL} (hd : decode M.2.2.1 pc = .ok (.istore_n i, 1)) (hi : i < M.2.2.2.1) (ha : zsub a l) (hk : zok1 i a = true) (k : yR w d M (pc + 1) ((i.val, .int x) :: a) st Hp R) : yR w d M pc l (.int x :: st) Hp R := yS_st hd rfl rfl (fun _ => if_pos hi) ha hk k
theorem yS_istore {i : Nat} {x : Int32} {a : zL} (hd : decode M.2.2.1 pc = .ok (.istore i, 2)) (hi : i < M.2.2.2.1) (ha : zsub a l) (hk : zok1 i a = true) (k : yR w d M (pc + 2) ((i, .int x) :: a) st Hp R) : yR w d M pc l (.int x :: st) Hp R := yS_st hd rfl rfl (fun _ => if_pos hi) ha hk k
theorem yS_astore_n {i : Fin 4} {x : Nat} {a : zL} (hd : decode M.2.2.1 pc = .ok (.astore_n i, 1)) (hi : i < M.2.2.2.1) (ha : zsub a l) (hk : zok1 i a = true) (k : yR w d M (pc + 1) ((i.val, .ref x) :: a) st Hp R) : yR w d M pc l (.ref x :: st) Hp R := yS_st hd rfl rfl (fun _ => if_pos hi) ha hk k
theorem yS_ostore_n {i : Fin 4} {x : Nat} {a : zL} (hd : decode M.2.2.1 pc = .ok (.astore_n i, 1)) (hi : i < M.2.2.2.1) (ha : zsub a l) (hk : zok1 i a = true) (k : yR w d M (pc + 1) ((i.val, .retAddr x) :: a) st Hp R) : yR w d M pc l (.retAddr x :: st) Hp R := yS_st hd rfl rfl (fun _ => if_pos hi) ha hk k
theorem yS_ostore {i : Nat} {x : Nat} {a : zL} (hd : decode M.2.2.1 pc = .ok (.astore i, 2)) (hi : i < M.2.2.2.1) (ha : zsub a l) (hk : zok1 i a = true) (k : yR w d M (pc + 2) ((i, .retAddr x) :: a) st Hp R) : yR w d M pc l (.retAddr x :: st) Hp R := yS_st hd rfl rfl (fun _ => if_pos hi) ha hk k
theorem yS_dstore {i : Nat} {x : UInt64} {a : zL} (hd : decode M.2.2.1 pc = .ok (.dstore i, 2)) (hi : i + 1 < M.2.2.2.1) (ha : zsub a l) (hk : zok2 i a = true) (k : yR w d M (pc + 2) ((i, .double x) :: a) st Hp R) : yR w d M pc l (.double x :: st) Hp R := yS_st2 hd rfl rfl (fun _ => if_pos hi) ha hk k
theorem yS_iinc {i : Nat} {n v : Int} {a : zL} (hd : decode M.2.2.1 pc = .ok (.iinc i n, 3)) (hi : i < M.2.2.2.1) (hg : zget l i = some (qI v)) (ha : zsub a l) (hk : zok1 i a = true) (k : yR w d M (pc + 3) ((i, qI (v + n)) :: a) st Hp R) : yR w d M pc l st Hp R :=
  yS_onl (fun l' hl => ⟨_, zsub_st1 (v := qI (v + n)) (zsub_trans ha hl) hk, zS_pure hd rfl rfl (by
    show zinc M.2.2.2.1 l' i n st = _
    unfold zinc
    rw [zsub_get hl hg]
    simp only [if_pos hi, qi_add])⟩) k
theorem yS_i2 {i : Instr} {x y v : Int32} (hd : decode M.2.2.1 pc = .ok (i, 1)) (hb : zbr pc 1 i (.int y :: .int x :: st) = none) (hlen : 1 = zlen i) (h : ∀ l', zpure M.2.2.2.1 i l' (.int y :: .int x :: st) = some (l', .int v :: st)) (k : yR w d M (pc + 1) l (.int v :: st) Hp R) : yR w d M pc l (.int y :: .int x :: st) Hp R := yS_pure hd hb hlen (fun l' _ => h l') k
theorem yS_iadd {a b : Int} (hd : decode M.2.2.1 pc = .ok (.iadd, 1)) (k : yR w d M (pc + 1) l (qI (a + b) :: st) Hp R) : yR w d M pc l (qI b :: qI a :: st) Hp R := yS_i2 (v := Int32.ofInt (a + b)) hd rfl rfl (fun _ => by rw [← qi_add]; rfl) k
theorem yS_isub {a b : Int} (hd : decode M.2.2.1 pc = .ok (.isub, 1)) (k : yR w d M (pc + 1) l (qI (a - b) :: st) Hp R) : yR w d M pc l (qI b :: qI a :: st) Hp R := yS_i2 (v := Int32.ofInt (a - b)) hd rfl rfl (fun _ => by rw [← qi_sub]; rfl) k
theorem yS_imul {a b : Int} (hd : decode M.2.2.1 pc = .ok (.imul, 1)) (k : yR w d M (pc + 1) l (qI (a * b) :: st) Hp R) : yR w d M pc l (qI b :: qI a :: st) Hp R := yS_i2 (v := Int32.ofInt (a * b)) hd rfl rfl (fun _ => by rw [← qi_mul]; rfl) k
theorem yS_iand {a b : Int} (hd : decode M.2.2.1 pc = .ok (.iand, 1)) (k : yR w d M (pc + 1) l (qI (qand a b) :: st) Hp R) : yR w d M pc l (qI b :: qI a :: st) Hp R := yS_i2 (v := Int32.ofInt (qand a b)) hd rfl rfl (fun _ => by rw [← qi_and]; rfl) k
theorem yS_dup {v : Value} (hd : decode M.2.2.1 pc = .ok (.dup, 1)) (hv : v.category = 1) (k : yR w d M (pc + 1) l (v :: v :: st) Hp R) : yR w d M pc l (v :: st) Hp R := yS_pure hd rfl rfl (fun _ _ => by show (if v.category = 1 then some (v :: v :: st) else none).map _ = _; rw [if_pos hv]; rfl) k
theorem yS_p1 {i : Instr} {v u : Value} (hd : decode M.2.2.1 pc = .ok (i, 1)) (hb : zbr pc 1 i (v :: st) = none) (hlen : 1 = zlen i) (h : ∀ l', zpure M.2.2.2.1 i l' (v :: st) = some (l', u :: st)) (k : yR w d M (pc + 1) l (u :: st) Hp R) : yR w d M pc l (v :: st) Hp R := yS_pure hd hb hlen (fun l' _ => h l') k
theorem yS_p2 {i : Instr} {v v2 u : Value} (hd : decode M.2.2.1 pc = .ok (i, 1)) (hb : zbr pc 1 i (v :: v2 :: st) = none) (hlen : 1 = zlen i) (h : ∀ l', zpure M.2.2.2.1 i l' (v :: v2 :: st) = some (l', u :: st)) (k : yR w d M (pc + 1) l (u :: st) Hp R) : yR w d M pc l (v :: v2 :: st) Hp R := yS_pure hd hb hlen (fun l' _ => h l') k
theorem yS_br {i : Instr} {len pc' : Nat} {st' : List Value} (hd : decode M.2.2.1 pc = .ok (i, len)) (hb : zbr pc len i st = some (pc', st')) (k : yR w d M pc' l st' Hp R) : yR w d M pc l st Hp R := yS_on (fun _ _ => zS_br hd hb) k
theorem yS_goto {off : Int} {t : Nat} (hd : decode M.2.2.1 pc = .ok (.goto off, 3)) (ht : ztgt pc off = some t) (k : yR w d M t l st Hp R) : yR w d M pc l st Hp R := yS_br hd (by show (if 3 = 3 then (ztgt pc off).map _ else none) = _; rw [if_pos rfl, ht]; rfl) k
theorem yS_icmp {c : Jvm.ClassFile.Cond} {off : Int} {t : Nat} {x y : Int32} (hd : decode M.2.2.1 pc = .ok (.if_icmp c off, 3)) (ht : ztgt pc off = some t) (k : yR w d M (zcnd c x y t (pc + 3)) l st Hp R) : yR w d M pc l (.int y :: .int x :: st) Hp R := yS_br hd (by show (if 3 = 3 then (ztgt pc off).map _ else none) = _; rw [if_pos rfl, ht]; rfl) k
theorem yS_if {c : Jvm.ClassFile.Cond} {off : Int} {t : Nat} {x : Int32} (hd : decode M.2.2.1 pc = .ok (.ifCond c off, 3)) (ht : ztgt pc off = some t) (k : yR w d M (zcnd c x 0 t (pc + 3)) l st Hp R) : yR w d M pc l (.int x :: st) Hp R := yS_br hd (by show (if 3 = 3 then (ztgt pc off).map _ else none) = _; rw [if_pos rfl, ht]; rfl) k
theorem yS_if0 {c : Jvm.ClassFile.Cond} {off : Int} {t : Nat} {x : Int32} (hd : decode M.2.2.1 pc = .ok (.ifCond c off, 3)) (ht : ztgt pc off = some t) (k : yR w d M (zcnd c x (Int32.ofInt 0) t (pc + 3)) l st Hp R) : yR w d M pc l (.int x :: st) Hp R := yS_if hd ht k
theorem yS_tsw {df lo hi : Int} {offs : Array Int} {len t : Nat} {a : Int} (hd : decode M.2.2.1 pc = .ok (.tableswitch df lo hi offs, len)) (hr : Rg a) (ht : ztsw pc df lo hi offs a = some t) (k : yR w d M t l st Hp R) : yR w d M pc l (qI a :: st) Hp R := yS_br hd (by
  show (if (Int32.ofInt a).toInt < lo ∨ hi < (Int32.ofInt a).toInt then (ztgt pc df).map (fun t => (t, st)) else (offs[((Int32.ofInt a).toInt - lo).toNat]?).bind (fun o => (ztgt pc o).map (fun t => (t, st)))) = some (t, st)
  rw [qi_toInt hr]
  unfold ztsw at ht
  split at ht
  · next h => rw [if_pos h, ht]; rfl
  · next h =>
    rw [if_neg h]
    cases ho : offs[(a - lo).toNat]? with
    | none => rw [ho] at ht; cases ht
    | some o =>
      rw [ho] at ht
      have ht : ztgt pc o = some t := ht
      show (ztgt pc o).map _ = _
      rw [ht]
      rfl) k
theorem yS_mem {i : Instr} {len : Nat} {st' : List Value} (hd : decode M.2.2.1 pc = .ok (i, len)) (hb : zbr pc len i st = none) (hlen : len = zlen i) (h1 : ∀ l', zpure M.2.2.2.1 i l' st = none) (h : zmem w.T M.1 i (Hp) st = some st') (k : yR w d M (pc + len) l st' Hp R) : yR w d M pc l st Hp R :=
  yS_on (fun l' _ => zS_mem hd hb hlen (h1 l') h) k
theorem yS_wr {i : Instr} {len : Nat} {st' : List Value} (hd : decode M.2.2.1 pc = .ok (i, len)) (hb : zbr pc len i st = none) (hlen : len = zlen i) (h1 : ∀ l', zpure M.2.2.2.1 i l' st = none) (h2 : ∀ h, zmem w.T M.1 i h st = none) (h : zwr w.T M.1 M.2.2.2.2.2.1 i (Hp) st = some (Hp1, st')) (k : yR w d M (pc + len) l st' Hp1 R) : yR w d M pc l st Hp R :=
  yS_on (fun l' _ => zS_wr hd hb hlen (h1 l') (h2 _) h) k
theorem yS_getfield {ix ci j a : Nat} {fs : List Value} {v : Value} (hd : decode M.2.2.1 pc = .ok (.getfield ix, 3)) (hf : zTfl w.T M.1 ix = some (ci, j)) (hc : (Hp)[a]? = some (.inr (ci, fs))) (hv : fs[j]? = some v) (k : yR w d M (pc + 3) l (v :: st) Hp R) : yR w d M pc l (.ref a :: st) Hp R :=
  yS_mem hd rfl rfl (fun _ => rfl) (zgetf_of hf hc hv) k
theorem yS_putfield {ix ci j a : Nat} {fs fs' : List Value} {v : Value} (hd : decode M.2.2.1 pc = .ok (.putfield ix, 3)) (hf : zTfl w.T M.1 ix = some (ci, j)) (hc : (Hp)[a]? = some (.inr (ci, fs))) (hj : j < fs.length) (h4 : zfit (zTty w.T ci j) v = true) (h5 : zfinal (zTcl w.T) ci j = false) (hs : fs.set j v = fs') (hh : (Hp).set a (.inr (ci, fs')) = Hp1) (k : yR w d M (pc + 3) l st Hp1 R) : yR w d M pc l (v :: .ref a :: st) Hp R :=
  yS_wr hd rfl rfl (fun _ => rfl) (fun _ => rfl) (by
    unfold zwr
    dsimp only
    rw [zputf_of hf hc hj h4 h5, hs, hh]) k
theorem yS_ldc {i : Instr} {len : Nat} {v : Value} (hd : decode M.2.2.1 pc = .ok (i, len)) (hb : zbr pc len i st = none) (hlen : len = zlen i) (h1 : ∀ l', zpure M.2.2.2.1 i l' st = none) (h : ∀ h, zmem w.T M.1 i h st = some (v :: st)) (k : yR w d M (pc + len) l (v :: st) Hp R) : yR w d M pc l st Hp R := yS_mem hd hb hlen h1 (h _) k
theorem yS_ex {i : Instr} {len : Nat} {st' : List Value} (hd : decode M.2.2.1 pc = .ok (i, len)) (hb : zbr pc len i st = none) (hl : len = zlen i) (h1 : ∀ l', zpure M.2.2.2.1 i l' st = none) (h2 : ∀ h, zmem w.T M.1 i h st = none) (h3 : ∀ h, zwr w.T M.1 M.2.2.2.2.2.1 i h st = none) (h4 : zth w.T M.1 M.2.2.1 M.2.2.2.2.2.2 pc i st = none) (h5 : ∀ h, znw w.T M.1 i h st = none) (h6 : zoi w.T M.1 i st = none) (h7 : ∀ h, zcl w.T M.1 i h st = none) (h8 : zrt M.2.2.2.2.1 i st = none) (h9 : zText w.T M.1 i st = some st') (k : yR w d M (pc + len) l st' Hp R) : yR w d M pc l st Hp R :=
  yS_on (fun l' _ => zS_ex hd hb hl (h1 l') (h2 _) (h3 _) h4 (h5 _) h6 (h7 _) h8 h9) k
theorem yS_rt {i : Instr} {len : Nat} {v : Option Value} (hd : decode M.2.2.1 pc = .ok (i, len)) (hb : zbr pc len i st = none) (hl : len = zlen i) (h1 : ∀ l', zpure M.2.2.2.1 i l' st = none) (h2 : ∀ h, zmem w.T M.1 i h st = none) (h3 : ∀ h, zwr w.T M.1 M.2.2.2.2.2.1 i h st = none) (h4 : zth w.T M.1 M.2.2.1 M.2.2.2.2.2.2 pc i st = none) (h5 : ∀ h, znw w.T M.1 i h st = none) (h6 : zoi w.T M.1 i st = none) (h7 : ∀ h, zcl w.T M.1 i h st = none) (h8 : zrt M.2.2.2.2.1 i st = some v) (k : R (.inl v, Hp, 0, 0)) : yR w d M pc l st Hp R :=
  fun l' _ => ⟨_, k, zR.ret (zS_rt hd hb hl (h1 l') (h2 _) (h3 _) h4 (h5 _) h6 (h7 _) h8)⟩
theorem yS_ireturn {x : Int32} (hd : decode M.2.2.1 pc = .ok (.ireturn, 1)) (ht : M.2.2.2.2.1 = some .int) (k : R (.inl (some (.int x)), Hp, 0, 0)) : yR w d M pc l [.int x] Hp R := yS_rt hd rfl rfl (fun _ => rfl) (fun _ => rfl) (fun _ => rfl) rfl (fun _ => rfl) rfl (fun _ => rfl) (by rw [ht]; rfl) k
theorem yS_zreturn {v : Int} (hd : decode M.2.2.1 pc = .ok (.ireturn, 1)) (ht : M.2.2.2.2.1 = some .boolean) (hv : v = 0 ∨ v = 1) (k : R (.inl (some (qI v)), Hp, 0, 0)) : yR w d M pc l [qI v] Hp R := yS_rt (v := some (qI v)) hd rfl rfl (fun _ => rfl) (fun _ => rfl) (fun _ => rfl) rfl (fun _ => rfl) rfl (fun _ => rfl) (by
  rw [ht]
  rcases hv with rfl | rfl <;> rfl) k
theorem yS_vreturn (hd : decode M.2.2.1 pc = .ok (.return_, 1)) (ht : M.2.2.2.2.1 = none) (k : R (.inl none, Hp, 0, 0)) : yR w d M pc l [] Hp R := yS_rt hd rfl rfl (fun _ => rfl) (fun _ => rfl) (fun _ => rfl) rfl (fun _ => rfl) rfl (fun _ => rfl) (by rw [ht]; rfl) k
/-- new cells: what they cost -/
theorem yS_nw {i : Instr} {len dn : Nat} {st' : List Value} {Hp1 : zH} (hd : decode M.2.2.1 pc = .ok (i, len)) (hb : zbr pc len i st = none) (hl : len = zlen i) (h1 : ∀ l', zpure M.2.2.2.1 i l' st = none) (h2 : zmem w.T M.1 i Hp st = none) (h3 : zwr w.T M.1 M.2.2.2.2.2.1 i Hp st = none) (h4 : zth w.T M.1 M.2.2.1 M.2.2.2.2.2.2 pc i st = none) (h5 : znw w.T M.1 i Hp st = some (Hp1, st', dn)) (k : yR w d M (pc + len) l st' Hp1 (fun r => R (zadd 1 dn r))) : yR w d M pc l st Hp R := by
  intro l' hl'
  obtain ⟨x, q1, q2⟩ := k l' hl'
  exact ⟨_, q1, zR.add (zS_nw hd hb hl (h1 l') h2 h3 h4 h5) q2⟩
/-- Object's constructor -/
theorem yS_oi {ix a n : Nat} {mi : Nat} (hd : decode M.2.2.1 pc = .ok (.invokespecial ix, 3)) (hm : zTml w.T M.1 ix = some (mi, 3, n)) (hz : zcat st ≤ 16) (k : yR w d M (pc + 3) l st Hp R) : yR w d M pc l (.ref a :: st) Hp R :=
  yS_on (fun l' _ => zS_oi hd rfl rfl rfl rfl rfl rfl rfl (by unfold zoi; simp only [hm, hz, if_true])) k
/-- a call of which the run is known -/
theorem yS_clk {i : Instr} {mi e mc ms : Nat} {as : List Value} {v : Option Value} {Hp1 : zH} (hd : decode M.2.2.1 pc = .ok (i, 3)) (hb : zbr pc 3 i st = none) (hlen : 3 = zlen i) (h1 : ∀ l', zpure M.2.2.2.1 i l' st = none) (h2 : zmem w.T M.1 i Hp st = none) (h3 : zwr w.T M.1 M.2.2.2.2.2.1 i Hp st = none) (h4 : zth w.T M.1 M.2.2.1 M.2.2.2.2.2.2 pc i st = none) (h5 : znw w.T M.1 i Hp st = none) (h6 : zoi w.T M.1 i st = none)
    (h7 : zcl w.T M.1 i Hp st = some (mi, as, r)) (he : e ≤ d) (H : zX w.T e mi as Hp (.inl v, Hp1, mc, ms)) (k : yR w d M (pc + 3) l (v.toList ++ r) Hp1 (fun x => R (zadd mc ms x))) : yR w d M pc l st Hp R := by
  intro l' hl'
  obtain ⟨x, q1, q2⟩ := k l' hl'
  exact ⟨_, q1, zR.call (zS_cl hd hb hlen (h1 l') h2 h3 h4 h5 h6 h7) (H.mono he) q2⟩
theorem zcl_i {T : zTb} {k ix mi n b : Nat} {as : List Value} {h : zH} (hm : zTml T k ix = some (mi, 2, n)) (ha : zargs n st = some (as, .ref b :: r)) (hz : zcat r ≤ 16) : zcl T k (.invokespecial ix) h st = some (mi, .ref b :: as, r) := by
  unfold zcl; simp only [hm, ha, if_pos hz]
theorem zoi_2 {T : zTb} {k ix mi n : Nat} (hm : zTml T k ix = some (mi, 2, n)) : zoi T k (.invokespecial ix) st = none := by
  unfold zoi; simp only [hm]
/-- a constructor's call -/
theorem yS_ctor {ix mi e n b mc ms : Nat} {as : List Value} {Hp1 : zH} (hd : decode M.2.2.1 pc = .ok (.invokespecial ix, 3)) (hm : zTml w.T M.1 ix = some (mi, 2, n)) (ha : zargs n st = some (as, .ref b :: r)) (hz : zcat r ≤ 16) (he : e ≤ d) (H : zX w.T e mi (.ref b :: as) Hp (.inl none, Hp1, mc, ms)) (k : yR w d M (pc + 3) l r Hp1 (fun x => R (zadd mc ms x))) : yR w d M pc l st Hp R :=
  yS_clk hd rfl rfl (fun _ => rfl) rfl rfl rfl rfl (zoi_2 hm) (zcl_i hm ha hz) he H k
theorem yR.zX {mi : Nat} {as : List Value} {o : zRs} (hM : zTms w.T mi = some M) (hl : lv_args 0 as = l) (hc : zcat as ≤ M.2.2.2.1) (hs : zsub l l) (k : yR w d M 0 l [] Hp (fun r => o = r)) : zX w.T (d + 1) mi as Hp o := by
  obtain ⟨x, h1, h2⟩ := k l hs
  subst h1
  exact zX.of_R hM hc (by rw [hl]; exact h2)
/-- a call of a method of the class or the model, caught where it throws -/
abbrev wx (w : qE) (x : zH) : qE := (w.1, w.2.1, w.2.2.1, x)
theorem yS_try {i : Instr} {mi e : Nat} {as : List Value} {s : qS} {x : zH} {Q' : zO → qS → Prop} (hd : decode M.2.2.1 pc = .ok (i, 3)) (hb : zbr pc 3 i st = none) (hlen : 3 = zlen i) (h1 : ∀ l', zpure M.2.2.2.1 i l' st = none) (h2 : zmem w.T M.1 i (hp s x) st = none) (h3 : zwr w.T M.1 M.2.2.2.2.2.1 i (hp s x) st = none) (h4 : zth w.T M.1 M.2.2.1 M.2.2.2.2.2.2 pc i st = none) (h5 : znw w.T M.1 i (hp s x) st = none) (h6 : zoi w.T M.1 i st = none)
    (h7 : zcl w.T M.1 i (hp s x) st = some (mi, as, r)) (he : e ≤ d) (H : qW (wx w x) e mi as s Q')
    (k1 : ∀ v s', Q' (.inl v) s' → yR w d M (pc + 3) l (v.toList ++ r) (hp s' x) R) (k2 : ∀ xn s', Q' (.inr xn) s' → ∃ ph, zhand M.2.2.2.2.2.2 pc xn = some ph ∧ yR w d M ph l [.retAddr 0] (hp s' x) (fun q => R (zadd 1 6 q))) : yR w d M pc l st (hp s x) R := by
  intro l' hl
  obtain ⟨o, s1, q1, q2⟩ := H
  have hs := zS_cl (l := l') hd hb hlen (h1 l') h2 h3 h4 h5 h6 h7
  have q2 := q2.mono he
  cases o with
  | inl v =>
    obtain ⟨y, q3, q4⟩ := k1 v s1 q1 l' hl
    refine ⟨y, q3, ?_⟩
    have := zR.call hs q2 q4
    rwa [show zadd (qco (.inl v)).1 (qco (.inl v)).2 y = y from zadd_0 y] at this
  | inr xn =>
    obtain ⟨ph, z1, z2⟩ := k2 xn s1 q1
    obtain ⟨y, q3, q4⟩ := z2 l' hl
    exact ⟨_, q3, zR.caught hs q2 z1 q4⟩
section
variable {s : qS} {x : zH} {g : Nat → qS → Prop}
theorem yS_vI {ix mi e n b : Nat} {as fs : List Value} {M' : zM} {F : Int → qS → Prop} (hd : decode M.2.2.1 pc = .ok (.invokevirtual ix, 3)) (hm : zTml w.T M.1 ix = some (mi, 1, n)) (ha : zargs n st = some (as, .ref b :: r)) (hM : zTms w.T mi = some M') (hb : (hp s x)[b]? = some (.inr (M'.1, fs))) (hz : zcat r ≤ 16) (he : e ≤ d) (H : qW (wx w x) e mi (.ref b :: as) s (qPI F g)) (k1 : ∀ v s1, F v s1 → yR w d M (pc + 3) l (qI v :: r) (hp s1 x) R) (k2 : ∀ xn s', g xn s' → ∃ ph, zhand M.2.2.2.2.2.2 pc xn = some ph ∧ yR w d M ph l [.retAddr 0] (hp s' x) (fun q => R (zadd 1 6 q))) : yR w d M pc l st (hp s x) R :=
  yS_try hd rfl rfl (fun _ => rfl) rfl rfl rfl rfl rfl (zcl_v hm ha hM hb hz) he H (fun v s1 h => by
    rcases h with ⟨r, h1, h2⟩ | ⟨k, h1, -⟩
    · cases h1; exact k1 r s1 h2
    · cases h1) (fun xn s1 h => by
    rcases h with ⟨r, h1, -⟩ | ⟨k, h1, h2⟩
    · cases h1
    · cases h1; exact k2 _ _ h2)
theorem yS_vD {ix mi e n b : Nat} {as fs : List Value} {M' : zM} {F : UInt64 → qS → Prop} (hd : decode M.2.2.1 pc = .ok (.invokevirtual ix, 3)) (hm : zTml w.T M.1 ix = some (mi, 1, n)) (ha : zargs n st = some (as, .ref b :: r)) (hM : zTms w.T mi = some M') (hb : (hp s x)[b]? = some (.inr (M'.1, fs))) (hz : zcat r ≤ 16) (he : e ≤ d) (H : qW (wx w x) e mi (.ref b :: as) s (qPD F g)) (k1 : ∀ v s1, F v s1 → yR w d M (pc + 3) l (.double v :: r) (hp s1 x) R) (k2 : ∀ xn s', g xn s' → ∃ ph, zhand M.2.2.2.2.2.2 pc xn = some ph ∧ yR w d M ph l [.retAddr 0] (hp s' x) (fun q => R (zadd 1 6 q))) : yR w d M pc l st (hp s x) R :=
  yS_try hd rfl rfl (fun _ => rfl) rfl rfl rfl rfl rfl (zcl_v hm ha hM hb hz) he H (fun v s1 h => by
    rcases h with ⟨r, h1, h2⟩ | ⟨k, h1, -⟩
    · cases h1; exact k1 r s1 h2
    · cases h1) (fun xn s1 h => by
    rcases h with ⟨r, h1, -⟩ | ⟨k, h1, h2⟩
    · cases h1
    · cases h1; exact k2 _ _ h2)
end
end YR
