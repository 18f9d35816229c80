/-! rules for the constructors: new objects, new arrays, final fields; letters -/
section CR
variable {w : qE} {d pc : Nat} {M : zM} {l : zL} {st r : List Value} {Hp Hp1 : zH} {R : zRs → Prop}
theorem yS_new {ix ci a : Nat} {q : vw_C} {fs : List Value} (hd : decode M.2.2.1 pc = .ok (.new ix, 3)) (hn : zTnl w.T M.1 ix = some ci) (hx : zTxl w.T M.1 ix = none) (hc : (zTcl w.T)[ci]? = some q) (hf : zdef (zTty w.T) ci q.2.2 = fs) (ha : Hp.length = a) (hh : Hp ++ [.inr (ci, fs)] = Hp1) (k : yR w d M (pc + 3) l (.ref a :: st) Hp1 (fun r => R (zadd 1 q.2.2 r))) : yR w d M pc l st Hp R := by
  subst ha hh hf
  refine yS_nw hd rfl rfl (fun _ => rfl) rfl rfl ?_ ?_ k
  · show (match zTxl w.T M.1 ix with
      | some (xi, ic) => _
      | none => none) = none
    rw [hx]
  · show znew (zTcl w.T) (zTty w.T) (zTnl w.T M.1) ix Hp st = _
    unfold znew
    rw [hn]
    dsimp only
    rw [hc]
theorem znwa {n : Nat} (hn : n ≤ 100000) : ¬ (Int32.ofInt (n : Int) < 0 ∨ 100000 < (Int32.ofInt (n : Int)).toNatClampNeg) ∧ (Int32.ofInt (n : Int)).toNatClampNeg = n := by
  have hr : Rg (n : Int) := ⟨by omega, by omega⟩
  have h1 := qi_nat (i := (n : Int)) (by omega) hr
  have h2 : (Int32.ofInt (n : Int)).toNatClampNeg = n := by rw [h1]; omega
  refine ⟨fun c => ?_, h2⟩
  rcases c with c | c
  · have := (qi_lt hr (b := 0) ⟨by decide, by decide⟩).mp c
    omega
  · omega
theorem yS_newI {n a : Nat} {v : Int} (hd : decode M.2.2.1 pc = .ok (.newarray .int, 2)) (hv : v = (n : Int)) (hn : n ≤ 100000) (ha : Hp.length = a) (hh : Hp ++ [.inl (0, n, .inl (fun _ => 0))] = Hp1) (k : yR w d M (pc + 2) l (.ref a :: st) Hp1 (fun r => R (zadd 1 n r))) : yR w d M pc l (qI v :: st) Hp R := by
  subst hv ha hh
  obtain ⟨h1, h2⟩ := znwa hn
  refine yS_nw hd rfl rfl (fun _ => rfl) rfl rfl rfl ?_ k
  show (if Int32.ofInt (n : Int) < 0 ∨ 100000 < (Int32.ofInt (n : Int)).toNatClampNeg then none else some (Hp ++ [.inl (0, (Int32.ofInt (n : Int)).toNatClampNeg, .inl (fun _ => 0))], Value.ref Hp.length :: st, (Int32.ofInt (n : Int)).toNatClampNeg)) = _
  rw [if_neg h1, h2]
theorem yS_newZ {n a : Nat} {v : Int} (hd : decode M.2.2.1 pc = .ok (.newarray .boolean, 2)) (hv : v = (n : Int)) (hn : n ≤ 100000) (ha : Hp.length = a) (hh : Hp ++ [.inl (1, n, .inl (fun _ => 0))] = Hp1) (k : yR w d M (pc + 2) l (.ref a :: st) Hp1 (fun r => R (zadd 1 n r))) : yR w d M pc l (qI v :: st) Hp R := by
  subst hv ha hh
  obtain ⟨h1, h2⟩ := znwa hn
  refine yS_nw hd rfl rfl (fun _ => rfl) rfl rfl rfl ?_ k
  show (if Int32.ofInt (n : Int) < 0 ∨ 100000 < (Int32.ofInt (n : Int)).toNatClampNeg then none else some (Hp ++ [.inl (1, (Int32.ofInt (n : Int)).toNatClampNeg, .inl (fun _ => 0))], Value.ref Hp.length :: st, (Int32.ofInt (n : Int)).toNatClampNeg)) = _
  rw [if_neg h1, h2]
theorem yS_newJ {n a : Nat} {v : Int} (hd : decode M.2.2.1 pc = .ok (.newarray .long, 2)) (hv : v = (n : Int)) (hn : n ≤ 100000) (ha : Hp.length = a) (hh : Hp ++ [.inl (2, n, .inr (.inl (fun _ => 0)))] = Hp1) (k : yR w d M (pc + 2) l (.ref a :: st) Hp1 (fun r => R (zadd 1 n r))) : yR w d M pc l (qI v :: st) Hp R := by
  subst hv ha hh
  obtain ⟨h1, h2⟩ := znwa hn
  refine yS_nw hd rfl rfl (fun _ => rfl) rfl rfl rfl ?_ k
  show (if Int32.ofInt (n : Int) < 0 ∨ 100000 < (Int32.ofInt (n : Int)).toNatClampNeg then none else some (Hp ++ [.inl (2, (Int32.ofInt (n : Int)).toNatClampNeg, .inr (.inl (fun _ => 0)))], Value.ref Hp.length :: st, (Int32.ofInt (n : Int)).toNatClampNeg)) = _
  rw [if_neg h1, h2]
theorem yS_newD {n a : Nat} {v : Int} (hd : decode M.2.2.1 pc = .ok (.newarray .double, 2)) (hv : v = (n : Int)) (hn : n ≤ 100000) (ha : Hp.length = a) (hh : Hp ++ [.inl (3, n, .inr (.inr (.inr (.inl (fun _ => 0)))))] = Hp1) (k : yR w d M (pc + 2) l (.ref a :: st) Hp1 (fun r => R (zadd 1 n r))) : yR w d M pc l (qI v :: st) Hp R := by
  subst hv ha hh
  obtain ⟨h1, h2⟩ := znwa hn
  refine yS_nw hd rfl rfl (fun _ => rfl) rfl rfl rfl ?_ k
  show (if Int32.ofInt (n : Int) < 0 ∨ 100000 < (Int32.ofInt (n : Int)).toNatClampNeg then none else some (Hp ++ [.inl (3, (Int32.ofInt (n : Int)).toNatClampNeg, .inr (.inr (.inr (.inl (fun _ => 0)))))], Value.ref Hp.length :: st, (Int32.ofInt (n : Int)).toNatClampNeg)) = _
  rw [if_neg h1, h2]
/-- a field, final or not, in its own class' constructor -/
theorem yS_putf {ix ci j a : Nat} {fs fs' : List Value} {v : Value} (hd : decode M.2.2.1 pc = .ok (.putfield ix, 3)) (hf : zTfl w.T M.1 ix = some (ci, j)) (hi : M.2.2.2.2.2.1 = true) (hk : ci = M.1) (hc : Hp[a]? = some (.inr (ci, fs))) (hj : j < fs.length) (h4 : zfit (zTty w.T ci j) v = true) (hs : fs.set j v = fs') (hh : Hp.set a (.inr (ci, fs')) = Hp1) (k : yR w d M (pc + 3) l st Hp1 R) : yR w d M pc l (v :: .ref a :: st) Hp R :=
  yS_wr hd rfl rfl (fun _ => rfl) (fun _ => rfl) (by
    show zputf (zTcl w.T) (zTty w.T) M.2.2.2.2.2.1 M.1 (zTfl w.T M.1) ix Hp (v :: .ref a :: st) = _
    unfold zputf
    rw [hi]
    simp only [hf, hc]
    rw [if_pos ⟨trivial, hj, h4, fun _ => ⟨trivial, hk⟩⟩, hs, hh]) k
theorem yS_astore {i x : Nat} {a : zL} (hd : decode M.2.2.1 pc = .ok (.astore i, 2)) (hi : i < M.2.2.2.1) (ha : zsub a l) (hk : zok1 i a = true) (k : yR w d M (pc + 2) ((i, .ref x) :: a) st Hp R) : yR w d M pc l (.ref x :: st) Hp R := yS_st hd rfl rfl (fun _ => if_pos hi) ha hk k
/-- what pushes an int -/
def isPush (i : Instr) (len : Nat) (v : Int) : Prop := len = zlen i ∧ (∀ pc st, zbr pc len i st = none) ∧ ∀ ml l st, zpure ml i l st = some (l, qI v :: st)
theorem isPc (v : Int) : isPush (.iconst v) 1 v := ⟨rfl, fun _ _ => rfl, fun _ _ _ => rfl⟩
theorem isPb (v : Int) (e : (Int8.ofInt v).toInt32 = Int32.ofInt v) : isPush (.bipush v) 2 v := ⟨rfl, fun _ _ => rfl, fun _ _ st => by show some (_, Value.int (Int8.ofInt v).toInt32 :: st) = _; rw [e]⟩
theorem isPs (v : Int) (e : (Int16.ofInt v).toInt32 = Int32.ofInt v) : isPush (.sipush v) 3 v := ⟨rfl, fun _ _ => rfl, fun _ _ st => by show some (_, Value.int (Int16.ofInt v).toInt32 :: st) = _; rw [e]⟩
def FLt (k : Nat) : Nat → Int32 := fun j => if j < k then Int32.ofInt ((wLt.getD j 0 : Nat) : Int) else 0
theorem FLt_up (k : Nat) : upd (FLt k) k (Int32.ofInt ((wLt.getD k 0 : Nat) : Int)) = FLt (k + 1) := by
  funext j
  unfold upd FLt
  by_cases c : j = k
  · subst c
    rw [if_pos rfl, if_pos (by omega)]
  · rw [if_neg c]
    by_cases c2 : j < k
    · rw [if_pos c2, if_pos (by omega)]
    · rw [if_neg c2, if_neg (by omega)]
theorem yS_let {a k p1 p2 p3 p4 n1 n2 : Nat} {i1 i2 : Instr} {v c : Int} {G : (Nat → Int32) → zH} (hG : ∀ F, (G F)[a]? = some (.inl (0, 203, .inl F))) (hGs : ∀ F F', (G F).set a (.inl (0, 203, .inl F')) = G F') (hd0 : decode M.2.2.1 pc = .ok (.dup, 1)) (e1 : pc + 1 = p1) (hd1 : decode M.2.2.1 p1 = .ok (i1, n1)) (e2 : p1 + n1 = p2) (hd2 : decode M.2.2.1 p2 = .ok (i2, n2)) (e3 : p2 + n2 = p3) (hd3 : decode M.2.2.1 p3 = .ok (.iastore, 1)) (e4 : p3 + 1 = p4) (h1 : isPush i1 n1 v) (h2 : isPush i2 n2 c) (hv : v = (k : Int)) (hk : k < 203) (hc : c = ((wLt.getD k 0 : Nat) : Int)) (kk : yR w d M p4 l (.ref a :: st) (G (FLt (k + 1))) R) : yR w d M pc l (.ref a :: st) (G (FLt k)) R := by
  subst hv hc e1 e2 e3 e4
  obtain ⟨q1, q2, q3⟩ := h1
  obtain ⟨t1, t2, t3⟩ := h2
  refine yS_dup hd0 rfl (yS_pure hd1 (q2 _ _) q1 (fun l' _ => q3 _ l' _) (yS_pure hd2 (t2 _ _) t1 (fun l' _ => t3 _ l' _) ?_))
  refine yS_wr hd3 rfl rfl (fun _ => rfl) (fun _ => rfl) ?_ kk
  show zastI (G (FLt k)) (qI ((wLt.getD k 0 : Nat) : Int) :: qI (k : Int) :: .ref a :: .ref a :: st) = _
  unfold zastI
  dsimp only [qI]
  rw [hG]
  obtain ⟨z1, z2⟩ := qi_in (i := (k : Int)) (n := 203) (by omega) (by omega) (by decide)
  have z3 : ((k : Int)).toNat = k := by omega
  simp only [z1, z2, z3, and_self, if_true]
  rw [hGs, FLt_up]
end CR
