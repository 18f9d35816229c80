/-! calls by the kind of their answer; switches; the old world's objects -/
section QC
variable {w : qE} {d pc : Nat} {M : zM} {l : zL} {st r : List Value} {s : qS} {Q : zO → qS → Prop} {g : Nat → qS → Prop}
theorem zsub_n {l : zL} : zsub [] l := True.intro
theorem zsub_c {l a : zL} {i : Nat} {v : Value} (h : zget l i = some v) (k : zsub a l) : zsub ((i, v) :: a) l := ⟨h, k⟩
theorem qS_if0 {c : Jvm.ClassFile.Cond} {off : Int} {t : Nat} {x : Int32} (hd : decode M.2.2.1 pc = .ok (.ifCond c off, 3)) (ht : ztgt pc off = some t) (k : qR w d M (zcnd c x (Int32.ofInt 0) t (pc + 3)) l st s Q) : qR w d M pc l (.int x :: st) s Q := qS_if hd ht k
theorem qS_csI {ix mi e n : Nat} {as : List Value} {F : Int → qS → Prop} (hd : decode M.2.2.1 pc = .ok (.invokestatic ix, 3)) (hm : zTml w.T M.1 ix = some (mi, 0, n)) (ha : zargs n st = some (as, r)) (hz : zcat r ≤ 16) (hh : M.2.2.2.2.2.2 = []) (he : e ≤ d) (H : qW w e mi as s (qPI F g)) (k1 : ∀ v s1, F v s1 → qR w d M (pc + 3) l (qI v :: r) s1 Q) (k2 : ∀ x s1, g x s1 → Q (.inr x) s1) : qR w d M pc l st s Q :=
  qS_cl hd rfl rfl (fun _ => rfl) (fun _ => rfl) (fun _ => rfl) rfl (fun _ => rfl) rfl (zcl_s hm ha hz) hh he H (fun v s1 h => by
    rcases h with ⟨r, h1, h2⟩ | ⟨k, h1, -⟩
    · cases h1; exact k1 r s1 h2
    · cases h1) (fun x s1 h => by
    rcases h with ⟨r, h1, -⟩ | ⟨k, h1, h2⟩
    · cases h1
    · cases h1; exact k2 _ _ h2)
theorem qS_csA {ix mi e n : Nat} {as : List Value} {F : Nat → qS → Prop} (hd : decode M.2.2.1 pc = .ok (.invokestatic ix, 3)) (hm : zTml w.T M.1 ix = some (mi, 0, n)) (ha : zargs n st = some (as, r)) (hz : zcat r ≤ 16) (hh : M.2.2.2.2.2.2 = []) (he : e ≤ d) (H : qW w e mi as s (qPA F g)) (k1 : ∀ v s1, F v s1 → qR w d M (pc + 3) l (.retAddr v :: r) s1 Q) (k2 : ∀ x s1, g x s1 → Q (.inr x) s1) : qR w d M pc l st s Q :=
  qS_cl hd rfl rfl (fun _ => rfl) (fun _ => rfl) (fun _ => rfl) rfl (fun _ => rfl) rfl (zcl_s hm ha hz) hh he H (fun v s1 h => by
    rcases h with ⟨r, h1, h2⟩ | ⟨k, h1, -⟩
    · cases h1; exact k1 r s1 h2
    · cases h1) (fun x s1 h => by
    rcases h with ⟨r, h1, -⟩ | ⟨k, h1, h2⟩
    · cases h1
    · cases h1; exact k2 _ _ h2)
theorem qS_csJ {ix mi e n : Nat} {as : List Value} {F : Int64 → qS → Prop} (hd : decode M.2.2.1 pc = .ok (.invokestatic ix, 3)) (hm : zTml w.T M.1 ix = some (mi, 0, n)) (ha : zargs n st = some (as, r)) (hz : zcat r ≤ 16) (hh : M.2.2.2.2.2.2 = []) (he : e ≤ d) (H : qW w e mi as s (qPJ F g)) (k1 : ∀ v s1, F v s1 → qR w d M (pc + 3) l (.long v :: r) s1 Q) (k2 : ∀ x s1, g x s1 → Q (.inr x) s1) : qR w d M pc l st s Q :=
  qS_cl hd rfl rfl (fun _ => rfl) (fun _ => rfl) (fun _ => rfl) rfl (fun _ => rfl) rfl (zcl_s hm ha hz) hh he H (fun v s1 h => by
    rcases h with ⟨r, h1, h2⟩ | ⟨k, h1, -⟩
    · cases h1; exact k1 r s1 h2
    · cases h1) (fun x s1 h => by
    rcases h with ⟨r, h1, -⟩ | ⟨k, h1, h2⟩
    · cases h1
    · cases h1; exact k2 _ _ h2)
theorem qS_csD {ix mi e n : Nat} {as : List Value} {F : UInt64 → qS → Prop} (hd : decode M.2.2.1 pc = .ok (.invokestatic ix, 3)) (hm : zTml w.T M.1 ix = some (mi, 0, n)) (ha : zargs n st = some (as, r)) (hz : zcat r ≤ 16) (hh : M.2.2.2.2.2.2 = []) (he : e ≤ d) (H : qW w e mi as s (qPD F g)) (k1 : ∀ v s1, F v s1 → qR w d M (pc + 3) l (.double v :: r) s1 Q) (k2 : ∀ x s1, g x s1 → Q (.inr x) s1) : qR w d M pc l st s Q :=
  qS_cl hd rfl rfl (fun _ => rfl) (fun _ => rfl) (fun _ => rfl) rfl (fun _ => rfl) rfl (zcl_s hm ha hz) hh he H (fun v s1 h => by
    rcases h with ⟨r, h1, h2⟩ | ⟨k, h1, -⟩
    · cases h1; exact k1 r s1 h2
    · cases h1) (fun x s1 h => by
    rcases h with ⟨r, h1, -⟩ | ⟨k, h1, h2⟩
    · cases h1
    · cases h1; exact k2 _ _ h2)
theorem qS_csV {ix mi e n : Nat} {as : List Value} {F : qS → Prop} (hd : decode M.2.2.1 pc = .ok (.invokestatic ix, 3)) (hm : zTml w.T M.1 ix = some (mi, 0, n)) (ha : zargs n st = some (as, r)) (hz : zcat r ≤ 16) (hh : M.2.2.2.2.2.2 = []) (he : e ≤ d) (H : qW w e mi as s (qPV F g)) (k1 : ∀ s1, F s1 → qR w d M (pc + 3) l r s1 Q) (k2 : ∀ x s1, g x s1 → Q (.inr x) s1) : qR w d M pc l st s Q :=
  qS_cl hd rfl rfl (fun _ => rfl) (fun _ => rfl) (fun _ => rfl) rfl (fun _ => rfl) rfl (zcl_s hm ha hz) hh he H (fun v s1 h => by
    rcases h with ⟨h1, h2⟩ | ⟨k, h1, -⟩
    · cases h1; exact k1 s1 h2
    · cases h1) (fun x s1 h => by
    rcases h with ⟨h1, -⟩ | ⟨k, h1, h2⟩
    · cases h1
    · cases h1; exact k2 _ _ h2)
theorem qS_cvI {ix mi e n b : Nat} {as fs : List Value} {M' : zM} {F : Int → qS → Prop} (hd : decode M.2.2.1 pc = .ok (.invokevirtual ix, 3)) (hm : zTml w.T M.1 ix = some (mi, 1, n)) (ha : zargs n st = some (as, .ref b :: r)) (hM : zTms w.T mi = some M') (hb : (hp s w.2.2.2)[b]? = some (.inr (M'.1, fs))) (hz : zcat r ≤ 16) (hh : M.2.2.2.2.2.2 = []) (he : e ≤ d) (H : qW w e mi (.ref b :: as) s (qPI F g)) (k1 : ∀ v s1, F v s1 → qR w d M (pc + 3) l (qI v :: r) s1 Q) (k2 : ∀ x s1, g x s1 → Q (.inr x) s1) : qR w d M pc l st s Q :=
  qS_cl hd rfl rfl (fun _ => rfl) (fun _ => rfl) (fun _ => rfl) rfl (fun _ => rfl) rfl (zcl_v hm ha hM hb hz) hh he H (fun v s1 h => by
    rcases h with ⟨r, h1, h2⟩ | ⟨k, h1, -⟩
    · cases h1; exact k1 r s1 h2
    · cases h1) (fun x s1 h => by
    rcases h with ⟨r, h1, -⟩ | ⟨k, h1, h2⟩
    · cases h1
    · cases h1; exact k2 _ _ h2)
theorem qS_cvA {ix mi e n b : Nat} {as fs : List Value} {M' : zM} {F : Nat → qS → Prop} (hd : decode M.2.2.1 pc = .ok (.invokevirtual ix, 3)) (hm : zTml w.T M.1 ix = some (mi, 1, n)) (ha : zargs n st = some (as, .ref b :: r)) (hM : zTms w.T mi = some M') (hb : (hp s w.2.2.2)[b]? = some (.inr (M'.1, fs))) (hz : zcat r ≤ 16) (hh : M.2.2.2.2.2.2 = []) (he : e ≤ d) (H : qW w e mi (.ref b :: as) s (qPA F g)) (k1 : ∀ v s1, F v s1 → qR w d M (pc + 3) l (.retAddr v :: r) s1 Q) (k2 : ∀ x s1, g x s1 → Q (.inr x) s1) : qR w d M pc l st s Q :=
  qS_cl hd rfl rfl (fun _ => rfl) (fun _ => rfl) (fun _ => rfl) rfl (fun _ => rfl) rfl (zcl_v hm ha hM hb hz) hh he H (fun v s1 h => by
    rcases h with ⟨r, h1, h2⟩ | ⟨k, h1, -⟩
    · cases h1; exact k1 r s1 h2
    · cases h1) (fun x s1 h => by
    rcases h with ⟨r, h1, -⟩ | ⟨k, h1, h2⟩
    · cases h1
    · cases h1; exact k2 _ _ h2)
theorem qS_cvJ {ix mi e n b : Nat} {as fs : List Value} {M' : zM} {F : Int64 → qS → Prop} (hd : decode M.2.2.1 pc = .ok (.invokevirtual ix, 3)) (hm : zTml w.T M.1 ix = some (mi, 1, n)) (ha : zargs n st = some (as, .ref b :: r)) (hM : zTms w.T mi = some M') (hb : (hp s w.2.2.2)[b]? = some (.inr (M'.1, fs))) (hz : zcat r ≤ 16) (hh : M.2.2.2.2.2.2 = []) (he : e ≤ d) (H : qW w e mi (.ref b :: as) s (qPJ F g)) (k1 : ∀ v s1, F v s1 → qR w d M (pc + 3) l (.long v :: r) s1 Q) (k2 : ∀ x s1, g x s1 → Q (.inr x) s1) : qR w d M pc l st s Q :=
  qS_cl hd rfl rfl (fun _ => rfl) (fun _ => rfl) (fun _ => rfl) rfl (fun _ => rfl) rfl (zcl_v hm ha hM hb hz) hh he H (fun v s1 h => by
    rcases h with ⟨r, h1, h2⟩ | ⟨k, h1, -⟩
    · cases h1; exact k1 r s1 h2
    · cases h1) (fun x s1 h => by
    rcases h with ⟨r, h1, -⟩ | ⟨k, h1, h2⟩
    · cases h1
    · cases h1; exact k2 _ _ h2)
theorem qS_cvD {ix mi e n b : Nat} {as fs : List Value} {M' : zM} {F : UInt64 → qS → Prop} (hd : decode M.2.2.1 pc = .ok (.invokevirtual ix, 3)) (hm : zTml w.T M.1 ix = some (mi, 1, n)) (ha : zargs n st = some (as, .ref b :: r)) (hM : zTms w.T mi = some M') (hb : (hp s w.2.2.2)[b]? = some (.inr (M'.1, fs))) (hz : zcat r ≤ 16) (hh : M.2.2.2.2.2.2 = []) (he : e ≤ d) (H : qW w e mi (.ref b :: as) s (qPD F g)) (k1 : ∀ v s1, F v s1 → qR w d M (pc + 3) l (.double v :: r) s1 Q) (k2 : ∀ x s1, g x s1 → Q (.inr x) s1) : qR w d M pc l st s Q :=
  qS_cl hd rfl rfl (fun _ => rfl) (fun _ => rfl) (fun _ => rfl) rfl (fun _ => rfl) rfl (zcl_v hm ha hM hb hz) hh he H (fun v s1 h => by
    rcases h with ⟨r, h1, h2⟩ | ⟨k, h1, -⟩
    · cases h1; exact k1 r s1 h2
    · cases h1) (fun x s1 h => by
    rcases h with ⟨r, h1, -⟩ | ⟨k, h1, h2⟩
    · cases h1
    · cases h1; exact k2 _ _ h2)
theorem qS_cvV {ix mi e n b : Nat} {as fs : List Value} {M' : zM} {F : qS → Prop} (hd : decode M.2.2.1 pc = .ok (.invokevirtual ix, 3)) (hm : zTml w.T M.1 ix = some (mi, 1, n)) (ha : zargs n st = some (as, .ref b :: r)) (hM : zTms w.T mi = some M') (hb : (hp s w.2.2.2)[b]? = some (.inr (M'.1, fs))) (hz : zcat r ≤ 16) (hh : M.2.2.2.2.2.2 = []) (he : e ≤ d) (H : qW w e mi (.ref b :: as) s (qPV F g)) (k1 : ∀ s1, F s1 → qR w d M (pc + 3) l r s1 Q) (k2 : ∀ x s1, g x s1 → Q (.inr x) s1) : qR w d M pc l st s Q :=
  qS_cl hd rfl rfl (fun _ => rfl) (fun _ => rfl) (fun _ => rfl) rfl (fun _ => rfl) rfl (zcl_v hm ha hM hb hz) hh he H (fun v s1 h => by
    rcases h with ⟨h1, h2⟩ | ⟨k, h1, -⟩
    · cases h1; exact k1 s1 h2
    · cases h1) (fun x s1 h => by
    rcases h with ⟨h1, -⟩ | ⟨k, h1, h2⟩
    · cases h1
    · cases h1; exact k2 _ _ h2)
theorem qS_coI {ix mi e n b : Nat} {as : List Value} {M' : zM} {F : Int → qS → Prop} (hd : decode M.2.2.1 pc = .ok (.invokevirtual ix, 3)) (hm : zTml w.T M.1 ix = some (mi, 1, n)) (ha : zargs n st = some (as, .retAddr b :: r)) (hM : zTms w.T mi = some M') (hb : zTsk w.T b = some M'.1) (hz : zcat r ≤ 16) (hh : M.2.2.2.2.2.2 = []) (he : e ≤ d) (H : qW w e mi (.retAddr b :: as) s (qPI F g)) (k1 : ∀ v s1, F v s1 → qR w d M (pc + 3) l (qI v :: r) s1 Q) (k2 : ∀ x s1, g x s1 → Q (.inr x) s1) : qR w d M pc l st s Q :=
  qS_cl hd rfl rfl (fun _ => rfl) (fun _ => rfl) (fun _ => rfl) rfl (fun _ => rfl) rfl (zcl_o hm ha hM hb hz) hh he H (fun v s1 h => by
    rcases h with ⟨r, h1, h2⟩ | ⟨k, h1, -⟩
    · cases h1; exact k1 r s1 h2
    · cases h1) (fun x s1 h => by
    rcases h with ⟨r, h1, -⟩ | ⟨k, h1, h2⟩
    · cases h1
    · cases h1; exact k2 _ _ h2)
theorem qS_coA {ix mi e n b : Nat} {as : List Value} {M' : zM} {F : Nat → qS → Prop} (hd : decode M.2.2.1 pc = .ok (.invokevirtual ix, 3)) (hm : zTml w.T M.1 ix = some (mi, 1, n)) (ha : zargs n st = some (as, .retAddr b :: r)) (hM : zTms w.T mi = some M') (hb : zTsk w.T b = some M'.1) (hz : zcat r ≤ 16) (hh : M.2.2.2.2.2.2 = []) (he : e ≤ d) (H : qW w e mi (.retAddr b :: as) s (qPA F g)) (k1 : ∀ v s1, F v s1 → qR w d M (pc + 3) l (.retAddr v :: r) s1 Q) (k2 : ∀ x s1, g x s1 → Q (.inr x) s1) : qR w d M pc l st s Q :=
  qS_cl hd rfl rfl (fun _ => rfl) (fun _ => rfl) (fun _ => rfl) rfl (fun _ => rfl) rfl (zcl_o hm ha hM hb hz) hh he H (fun v s1 h => by
    rcases h with ⟨r, h1, h2⟩ | ⟨k, h1, -⟩
    · cases h1; exact k1 r s1 h2
    · cases h1) (fun x s1 h => by
    rcases h with ⟨r, h1, -⟩ | ⟨k, h1, h2⟩
    · cases h1
    · cases h1; exact k2 _ _ h2)
theorem qS_coJ {ix mi e n b : Nat} {as : List Value} {M' : zM} {F : Int64 → qS → Prop} (hd : decode M.2.2.1 pc = .ok (.invokevirtual ix, 3)) (hm : zTml w.T M.1 ix = some (mi, 1, n)) (ha : zargs n st = some (as, .retAddr b :: r)) (hM : zTms w.T mi = some M') (hb : zTsk w.T b = some M'.1) (hz : zcat r ≤ 16) (hh : M.2.2.2.2.2.2 = []) (he : e ≤ d) (H : qW w e mi (.retAddr b :: as) s (qPJ F g)) (k1 : ∀ v s1, F v s1 → qR w d M (pc + 3) l (.long v :: r) s1 Q) (k2 : ∀ x s1, g x s1 → Q (.inr x) s1) : qR w d M pc l st s Q :=
  qS_cl hd rfl rfl (fun _ => rfl) (fun _ => rfl) (fun _ => rfl) rfl (fun _ => rfl) rfl (zcl_o hm ha hM hb hz) hh he H (fun v s1 h => by
    rcases h with ⟨r, h1, h2⟩ | ⟨k, h1, -⟩
    · cases h1; exact k1 r s1 h2
    · cases h1) (fun x s1 h => by
    rcases h with ⟨r, h1, -⟩ | ⟨k, h1, h2⟩
    · cases h1
    · cases h1; exact k2 _ _ h2)
theorem qS_coD {ix mi e n b : Nat} {as : List Value} {M' : zM} {F : UInt64 → qS → Prop} (hd : decode M.2.2.1 pc = .ok (.invokevirtual ix, 3)) (hm : zTml w.T M.1 ix = some (mi, 1, n)) (ha : zargs n st = some (as, .retAddr b :: r)) (hM : zTms w.T mi = some M') (hb : zTsk w.T b = some M'.1) (hz : zcat r ≤ 16) (hh : M.2.2.2.2.2.2 = []) (he : e ≤ d) (H : qW w e mi (.retAddr b :: as) s (qPD F g)) (k1 : ∀ v s1, F v s1 → qR w d M (pc + 3) l (.double v :: r) s1 Q) (k2 : ∀ x s1, g x s1 → Q (.inr x) s1) : qR w d M pc l st s Q :=
  qS_cl hd rfl rfl (fun _ => rfl) (fun _ => rfl) (fun _ => rfl) rfl (fun _ => rfl) rfl (zcl_o hm ha hM hb hz) hh he H (fun v s1 h => by
    rcases h with ⟨r, h1, h2⟩ | ⟨k, h1, -⟩
    · cases h1; exact k1 r s1 h2
    · cases h1) (fun x s1 h => by
    rcases h with ⟨r, h1, -⟩ | ⟨k, h1, h2⟩
    · cases h1
    · cases h1; exact k2 _ _ h2)
theorem qS_coV {ix mi e n b : Nat} {as : List Value} {M' : zM} {F : qS → Prop} (hd : decode M.2.2.1 pc = .ok (.invokevirtual ix, 3)) (hm : zTml w.T M.1 ix = some (mi, 1, n)) (ha : zargs n st = some (as, .retAddr b :: r)) (hM : zTms w.T mi = some M') (hb : zTsk w.T b = some M'.1) (hz : zcat r ≤ 16) (hh : M.2.2.2.2.2.2 = []) (he : e ≤ d) (H : qW w e mi (.retAddr b :: as) s (qPV F g)) (k1 : ∀ s1, F s1 → qR w d M (pc + 3) l r s1 Q) (k2 : ∀ x s1, g x s1 → Q (.inr x) s1) : qR w d M pc l st s Q :=
  qS_cl hd rfl rfl (fun _ => rfl) (fun _ => rfl) (fun _ => rfl) rfl (fun _ => rfl) rfl (zcl_o hm ha hM hb hz) hh he H (fun v s1 h => by
    rcases h with ⟨h1, h2⟩ | ⟨k, h1, -⟩
    · cases h1; exact k1 s1 h2
    · cases h1) (fun x s1 h => by
    rcases h with ⟨h1, -⟩ | ⟨k, h1, h2⟩
    · cases h1
    · cases h1; exact k2 _ _ h2)
def ztsw (pc : Nat) (df lo hi : Int) (offs : Array Int) (a : Int) : Option Nat := if a < lo ∨ hi < a then ztgt pc df else (offs[(a - lo).toNat]?).bind (fun o => ztgt pc o)
theorem qS_tsw {df lo hi : Int} {offs : Array Int} {len t : Nat} {a : Int} (hd : decode M.2.2.1 pc = .ok (.tableswitch df lo hi offs, len)) (hr : Rg a) (ht : ztsw pc df lo hi offs a = some t) (k : qR w d M t l st s Q) : qR w d M pc l (qI a :: st) s Q := qS_br hd (by
  show (if (Int32.ofInt a).toInt < lo ∨ hi < (Int32.ofInt a).toInt then (ztgt pc df).map (fun t => (t, st)) else (offs[((Int32.ofInt a).toInt - lo).toNat]?).bind (fun o => (ztgt pc o).map (fun t => (t, st)))) = some (t, st)
  rw [qi_toInt hr]
  unfold ztsw at ht
  split at ht
  · next h => rw [if_pos h, ht]; rfl
  · next h =>
    rw [if_neg h]
    cases ho : offs[(a - lo).toNat]? with
    | none => rw [ho] at ht; cases ht
    | some o =>
      rw [ho] at ht
      have ht : ztgt pc o = some t := ht
      show (ztgt pc o).map _ = _
      rw [ht]
      rfl) k
def zlsw (pc : Nat) (df : Int) (ps : Array (Int × Int)) (a : Int) : Option Nat := ztgt pc (Op.lookupswitch.offset ps.toList df a)
theorem qS_lsw {df : Int} {ps : Array (Int × Int)} {len t : Nat} {a : Int} (hd : decode M.2.2.1 pc = .ok (.lookupswitch df ps, len)) (hp : (ps.toList.zip (ps.toList.drop 1)).all (fun (a, next) => a.1 < next.1) = true) (hr : Rg a) (ht : zlsw pc df ps a = some t) (k : qR w d M t l st s Q) : qR w d M pc l (qI a :: st) s Q := qS_br hd (by
  show (if (ps.toList.zip (ps.toList.drop 1)).all (fun (a, next) => a.1 < next.1) = true then (ztgt pc (Op.lookupswitch.offset ps.toList df (Int32.ofInt a).toInt)).map (fun t => (t, st)) else none) = some (t, st)
  rw [if_pos hp, qi_toInt hr]
  have ht : ztgt pc (Op.lookupswitch.offset ps.toList df a) = some t := ht
  rw [ht]
  rfl) k
theorem zlsw_d {df : Int} {ps : Array (Int × Int)} {a : Int} {t : Nat} (h : ∀ q ∈ ps.toList, q.1 ≠ a) (ht : ztgt pc df = some t) : zlsw pc df ps a = some t := by
  unfold zlsw
  have : Op.lookupswitch.offset ps.toList df a = df := Op.lookupswitch.offset_none (by
    rw [List.find?_eq_none]
    intro q hq
    simpa using h q hq)
  rw [this, ht]
/-- an old object's field -/
theorem zex_get {X : zEx} {ol : Nat → Nat → Bool} {ov : Nat → Option Int32} {k ix j o : Nat} {v : Value} (h1 : zExFl X k ix = some j) (h2 : zExO X o j = some v) (h0 : 0 < o) (hg : zgood v = true) : zextO X ol ov k (.getfield ix) (.retAddr o :: r) = some (v :: r) := by
  show zext X k (.getfield ix) (.retAddr o :: r) = _
  unfold zext
  simp only [h1, h2, h0, hg, and_self, if_true]
theorem qS_exget {ix j o : Nat} {v : Value} (hd : decode M.2.2.1 pc = .ok (.getfield ix, 3)) (hj : ∀ X Y, zExFl (qX w.1 X Y) M.1 ix = some j) (hv : qXo o j = some v) (h0 : 0 < o) (hg : zgood v = true) (k : qR w d M (pc + 3) l (v :: st) s Q) : qR w d M pc l (.retAddr o :: st) s Q :=
  qS_ex hd rfl rfl (fun _ => rfl) (fun _ => rfl) (fun _ => rfl) rfl (fun _ => rfl) rfl (fun _ => rfl) rfl (zex_get (ol := qol) (ov := qov) (hj _ _) hv h0 hg) k
theorem qS_nload_n {i : Fin 4} (hd : decode M.2.2.1 pc = .ok (.aload_n i, 1)) (hg : zget l i = some .null) (k : qR w d M (pc + 1) l (.null :: st) s Q) : qR w d M pc l st s Q := qS_pure hd rfl rfl (fun _ hl => by
  show zldA _ _ _ = _
  unfold zldA
  rw [zsub_get hl hg]) k
theorem qS_k {T : zTb} {k ix : Nat} {x : Int32} (h : zTkl T k ix = some (.int x)) : zkI (zTkl T k ix) st = some (.int x :: st) := by rw [h]; rfl
theorem qS_k2 {T : zTb} {k ix : Nat} {x : Int64} (h : zTkl T k ix = some (.long x)) : zkL (zTkl T k ix) st = some (.long x :: st) := by rw [h]; rfl
theorem qS_k3 {T : zTb} {k ix : Nat} {x : UInt64} (h : zTkl T k ix = some (.double x)) : zkL (zTkl T k ix) st = some (.double x :: st) := by rw [h]; rfl
theorem qtab_len : ∀ {t : Nat}, 0 < qwid t → 0 < qlen (t + 1)
  | 0, h => absurd h (by decide)
  | 1, h => absurd h (by decide)
  | 2, h => absurd h (by decide)
  | 3, h => absurd h (by decide)
  | 4, h => by decide
  | 5, h => absurd h (by decide)
  | 6, h => absurd h (by decide)
  | 7, h => absurd h (by decide)
  | 8, h => absurd h (by decide)
  | 9, h => by decide
  | 10, h => absurd h (by decide)
  | 11, h => by decide
  | 12, h => absurd h (by decide)
  | 13, h => by decide
  | 14, h => absurd h (by decide)
  | 15, h => by decide
  | 16, h => absurd h (by decide)
  | 17, h => absurd h (by decide)
  | 18, h => by decide
  | 19, h => absurd h (by decide)
  | 20, h => by decide
  | 21, h => absurd h (by decide)
  | 22, h => by decide
  | 23, h => absurd h (by decide)
  | 24, h => absurd h (by decide)
  | 25, h => absurd h (by decide)
  | 26, h => absurd h (by decide)
  | 27, h => absurd h (by decide)
  | 28, h => absurd h (by decide)
  | 29, h => absurd h (by decide)
  | 30, h => absurd h (by decide)
  | 31, h => absurd h (by decide)
  | 32, h => absurd h (by decide)
  | 33, h => absurd h (by decide)
  | 34, h => absurd h (by decide)
  | 35, h => absurd h (by decide)
  | 36, h => absurd h (by decide)
  | 37, h => absurd h (by decide)
  | 38, h => absurd h (by decide)
  | 39, h => absurd h (by decide)
  | 40, h => absurd h (by decide)
  | n + 41, h => absurd h (by unfold qwid; split <;> omega)
theorem qi_lit {i : Int} (h0 : 0 ≤ i) (h1 : i < 10) : i = 0 ∨ i = 1 ∨ i = 2 ∨ i = 3 ∨ i = 4 ∨ i = 5 ∨ i = 6 ∨ i = 7 ∨ i = 8 ∨ i = 9 := by omega
/-- the switch's map is the identity; the constants in their order -/
theorem qS_sw {i : Int} (h0 : 0 ≤ i) (h1 : i < 10) {k : Nat} : zText w.T k .iaload (qI i :: .retAddr 3 :: st) = some (qI i :: st) := by
  rcases qi_lit h0 h1 with h | h | h | h | h | h | h | h | h | h <;> (subst h; rfl)
theorem qS_all {i : Int} (h0 : 0 ≤ i) (h1 : i < 10) {k : Nat} : zText w.T k .aaload (qI i :: .retAddr 2 :: st) = some (.retAddr (10 + i.toNat) :: st) := by
  rcases qi_lit h0 h1 with h | h | h | h | h | h | h | h | h | h <;> (subst h; rfl)
theorem qS_ord {o k ix : Nat} {v : Int32} (hl : qol k ix = true) (hv : qov o = some v) (h0 : 0 < o) (hz : zcat st ≤ 16) : zText w.T k (.invokevirtual ix) (.retAddr o :: st) = some (.int v :: st) := by
  show zextO (qX w.1 w.2.1 w.2.2.1) qol qov k (.invokevirtual ix) (.retAddr o :: st) = _
  unfold zextO
  simp only [hv, hl, h0, hz, and_self, if_true]
end QC
