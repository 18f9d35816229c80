/-! branches and switches -/
def ztgt (pc : Nat) (off : Int) : Option Nat := match (pc : Int) + off with
  | .ofNat t => some t
  | .negSucc _ => none
theorem ztgt_eq {pc : Nat} {off : Int} {t : Nat} (h : ztgt pc off = some t) : (pc : Int) + off = (t : Int) := by
  unfold ztgt at h
  split at h
  next a e => cases h; exact e
  next => cases h
def zcnd (c : Jvm.ClassFile.Cond) (x y : Int32) (t f : Nat) : Nat := match c with
  | .eq => if x = y then t else f
  | .ne => if x = y then f else t
  | .lt => if x < y then t else f
  | .ge => if y ≤ x then t else f
  | .gt => if y < x then t else f
  | .le => if x ≤ y then t else f
def zbr (pc len : Nat) (i : Instr) (st : List Value) : Option (Nat × List Value) := match i with
  | .goto off => if len = 3 then (ztgt pc off).map (fun t => (t, st)) else none
  | .ifCond c off => match st with
    | .int x :: r => if len = 3 then (ztgt pc off).map (fun t => (zcnd c x 0 t (pc + 3), r)) else none
    | _ => none
  | .if_icmp c off => match st with
    | .int y :: .int x :: r => if len = 3 then (ztgt pc off).map (fun t => (zcnd c x y t (pc + 3), r)) else none
    | _ => none
  | .tableswitch d lo hi offs => match st with
    | .int x :: r => if x.toInt < lo ∨ hi < x.toInt then (ztgt pc d).map (fun t => (t, r)) else (offs[(x.toInt - lo).toNat]?).bind (fun o => (ztgt pc o).map (fun t => (t, r)))
    | _ => none
  | .lookupswitch d ps => match st with
    | .int x :: r => if (ps.toList.zip (ps.toList.drop 1)).all (fun (a, next) => a.1 < next.1) = true then (ztgt pc (Op.lookupswitch.offset ps.toList d x.toInt)).map (fun t => (t, r)) else none
    | _ => none
  | _ => none
section ZB
variable {p : Program} {l : Launch} {e : Env} {R : Room} {s : State} {m : MethodId} {args : Array Value} {below : List Frame} {meth : Method} {c : Code} {H : Heap} {locs : List Loc} {cells slots : Nat} {Q : State → Prop}
variable {cc : ByteArray} {pc pc' nL len : Nat} {ls : Array Slot} {sa : Nat → Nat} {ad : List Nat} {st cs st' : List Value}
theorem zbr_ok (hx : p.tables.exec = Jvm.exec) (hb : c.code = cc) {i : Instr} (hdg : decode cc pc = .ok (i, len)) (hS : zF sa ad st cs)
    (h : zbr pc len i st = some (pc', st')) (kk : ∀ (cs' : List Value), zF sa ad st' cs' → W p l e R s m args below meth c H locs cells slots Q (F0 m pc' ls cs')) :
    W p l e R s m args below meth c H locs cells slots Q (F0 m pc ls cs) := by
  unfold zbr at h
  split at h
  · next off =>
    split at h
    · next e3 =>
      subst e3
      obtain ⟨t, ht, e⟩ := Option.map_eq_some_iff.mp h
      cases e
      exact lv_goto hx hb hdg (ztgt_eq ht) (kk _ hS)
    · cases h
  · next cd off =>
    split at h
    · next x r =>
      obtain ⟨cr, rfl, hS1⟩ := zF_i hS
      split at h
      · next e3 =>
        subst e3
        obtain ⟨t, ht, e⟩ := Option.map_eq_some_iff.mp h
        cases e
        have ht := ztgt_eq ht
        have k2 := kk _ hS1
        cases cd <;> simp only [zcnd] at k2
        · exact lv_if_eq hx hb hdg ht (fun q => by rw [if_pos q] at k2; exact k2) (fun q => by rw [if_neg q] at k2; exact k2)
        · exact lv_if_ne hx hb hdg ht (fun q => by rw [if_neg q] at k2; exact k2) (fun q => by rw [if_pos q] at k2; exact k2)
        · exact lv_if_lt hx hb hdg ht (fun q => by rw [if_pos q] at k2; exact k2) (fun q => by rw [if_neg q] at k2; exact k2)
        · exact lv_if_ge hx hb hdg ht (fun q => by rw [if_pos q] at k2; exact k2) (fun q => by rw [if_neg q] at k2; exact k2)
        · exact lv_if_gt hx hb hdg ht (fun q => by rw [if_pos q] at k2; exact k2) (fun q => by rw [if_neg q] at k2; exact k2)
        · exact lv_if_le hx hb hdg ht (fun q => by rw [if_pos q] at k2; exact k2) (fun q => by rw [if_neg q] at k2; exact k2)
      · cases h
    · cases h
  · next cd off =>
    split at h
    · next y x r =>
      obtain ⟨cr, rfl, hS1⟩ := zF_i hS
      obtain ⟨cr2, rfl, hS2⟩ := zF_i hS1
      split at h
      · next e3 =>
        subst e3
        obtain ⟨t, ht, e⟩ := Option.map_eq_some_iff.mp h
        cases e
        have ht := ztgt_eq ht
        have k2 := kk _ hS2
        cases cd <;> simp only [zcnd] at k2
        · exact lv_icmp_eq hx hb hdg ht (fun q => by rw [if_pos q] at k2; exact k2) (fun q => by rw [if_neg q] at k2; exact k2)
        · exact lv_icmp_ne hx hb hdg ht (fun q => by rw [if_neg q] at k2; exact k2) (fun q => by rw [if_pos q] at k2; exact k2)
        · exact lv_icmp_lt hx hb hdg ht (fun q => by rw [if_pos q] at k2; exact k2) (fun q => by rw [if_neg q] at k2; exact k2)
        · exact lv_icmp_ge hx hb hdg ht (fun q => by rw [if_pos q] at k2; exact k2) (fun q => by rw [if_neg q] at k2; exact k2)
        · exact lv_icmp_gt hx hb hdg ht (fun q => by rw [if_pos q] at k2; exact k2) (fun q => by rw [if_neg q] at k2; exact k2)
        · exact lv_icmp_le hx hb hdg ht (fun q => by rw [if_pos q] at k2; exact k2) (fun q => by rw [if_neg q] at k2; exact k2)
      · cases h
    · cases h
  · next d lo hi offs =>
    split at h
    · next x r =>
      obtain ⟨cr, rfl, hS1⟩ := zF_i hS
      split at h
      · next hq =>
        obtain ⟨t, ht, e⟩ := Option.map_eq_some_iff.mp h
        cases e
        exact lv_tableOut hx hb hdg hq (ztgt_eq ht) (kk _ hS1)
      · next hq =>
        obtain ⟨o, ho, h2⟩ := Option.bind_eq_some_iff.mp h
        obtain ⟨t, ht, e⟩ := Option.map_eq_some_iff.mp h2
        cases e
        exact lv_tableIn hx hb hdg (fun z => hq (Or.inl z)) (fun z => hq (Or.inr z)) ho (ztgt_eq ht) (kk _ hS1)
    · cases h
  · next d ps =>
    split at h
    · next x r =>
      obtain ⟨cr, rfl, hS1⟩ := zF_i hS
      split at h
      · next hq =>
        obtain ⟨t, ht, e⟩ := Option.map_eq_some_iff.mp h
        cases e
        exact lv_lookup hx hb hdg hq rfl (ztgt_eq ht) (kk _ hS1)
      · cases h
    · cases h
  · cases h
end ZB
