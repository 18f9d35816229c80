/-! fields, arrays and the old world under qR -/
section QM
variable {w : qE} {d pc : Nat} {M : zM} {l : zL} {st r : List Value} {s s1 : qS} {Q : zO → qS → Prop}
theorem qS_mem {i : Instr} {len : Nat} {st' : List Value} (hd : decode M.2.2.1 pc = .ok (i, len)) (hb : zbr pc len i st = none) (hlen : len = zlen i) (h1 : ∀ l', zpure M.2.2.2.1 i l' st = none) (h : zmem w.T M.1 i (hp s w.2.2.2) st = some st') (k : qR w d M (pc + len) l st' s Q) : qR w d M pc l st s Q :=
  qS_on (fun l' _ => zS_mem hd hb hlen (h1 l') h) k
theorem qS_wr {i : Instr} {len : Nat} {st' : List Value} (hd : decode M.2.2.1 pc = .ok (i, len)) (hb : zbr pc len i st = none) (hlen : len = zlen i) (h1 : ∀ l', zpure M.2.2.2.1 i l' st = none) (h2 : ∀ h, zmem w.T M.1 i h st = none) (h : zwr w.T M.1 M.2.2.2.2.2.1 i (hp s w.2.2.2) st = some (hp s1 w.2.2.2, st')) (k : qR w d M (pc + len) l st' s1 Q) : qR w d M pc l st s Q :=
  qS_on (fun l' _ => zS_wr hd hb hlen (h1 l') (h2 _) h) k
theorem qS_getfield {ix ci j a : Nat} {fs : List Value} {v : Value} (hd : decode M.2.2.1 pc = .ok (.getfield ix, 3)) (hf : zTfl w.T M.1 ix = some (ci, j)) (hc : (hp s w.2.2.2)[a]? = some (.inr (ci, fs))) (hv : fs[j]? = some v) (k : qR w d M (pc + 3) l (v :: st) s Q) : qR w d M pc l (.ref a :: st) s Q :=
  qS_mem hd rfl rfl (fun _ => rfl) (zgetf_of hf hc hv) k
theorem zputf_of {cl : List vw_C} {tyf : Nat → Nat → FieldType} {init : Bool} {k0 : Nat} {fl : Nat → Option (Nat × Nat)} {ix ci j a : Nat} {h : zH} {fs : List Value} {v : Value} (h1 : fl ix = some (ci, j)) (h2 : h[a]? = some (.inr (ci, fs))) (h3 : j < fs.length) (h4 : zfit (tyf ci j) v = true) (h5 : zfinal cl ci j = false) : zputf cl tyf init k0 fl ix h (v :: .ref a :: st) = some (h.set a (.inr (ci, fs.set j v)), st) := by
  unfold zputf
  simp [h1, h2, h3, h4, h5]
theorem qS_putfield {ix ci j a : Nat} {fs fs' : List Value} {v : Value} (hd : decode M.2.2.1 pc = .ok (.putfield ix, 3)) (hf : zTfl w.T M.1 ix = some (ci, j)) (hc : (hp s w.2.2.2)[a]? = some (.inr (ci, fs))) (hj : j < fs.length) (h4 : zfit (zTty w.T ci j) v = true) (h5 : zfinal (zTcl w.T) ci j = false) (hs : fs.set j v = fs') (hh : (hp s w.2.2.2).set a (.inr (ci, fs')) = hp s1 w.2.2.2) (k : qR w d M (pc + 3) l st s1 Q) : qR w d M pc l (v :: .ref a :: st) s Q :=
  qS_wr hd rfl rfl (fun _ => rfl) (fun _ => rfl) (by
    unfold zwr
    dsimp only
    rw [zputf_of hf hc hj h4 h5, hs, hh]) k
theorem qS_iaload {a : Nat} {i : Int} (hd : decode M.2.2.1 pc = .ok (.iaload, 1)) (ha : 0 < qlen a) (h0 : 0 ≤ i) (h1 : i < qlen a) (k : qR w d M (pc + 1) l (qI (s a i) :: st) s Q) : qR w d M pc l (qI i :: .ref a :: st) s Q :=
  qS_mem hd rfl rfl (fun _ => rfl) (by
    show zaldI (hp s w.2.2.2) (qI i :: .ref a :: st) = some (qI (s a i) :: st)
    unfold zaldI
    dsimp only [qI]
    rw [hp_arr s _ a ha]
    obtain ⟨q1, q2⟩ := qi_in h0 h1 (qlen_le a)
    simp only [q1, q2, and_self, if_true, Int.toNat_of_nonneg h0]) k
theorem qS_iastore {a : Nat} {i v : Int} (hd : decode M.2.2.1 pc = .ok (.iastore, 1)) (ha : 0 < qlen a) (h0 : 0 ≤ i) (h1 : i < qlen a) (k : qR w d M (pc + 1) l st (qset s a i v) Q) : qR w d M pc l (qI v :: qI i :: .ref a :: st) s Q :=
  qS_wr hd rfl rfl (fun _ => rfl) (fun _ => rfl) (by
    show zastI (hp s w.2.2.2) (qI v :: qI i :: .ref a :: st) = _
    unfold zastI
    dsimp only [qI]
    rw [hp_arr s _ a ha]
    obtain ⟨q1, q2⟩ := qi_in h0 h1 (qlen_le a)
    simp only [q1, q2, and_self, if_true]
    rw [hp_aset s _ h0 v a ha]) k
theorem qS_baload {i : Int} (hd : decode M.2.2.1 pc = .ok (.baload, 1)) (h0 : 0 ≤ i) (h1 : i < 9) (k : qR w d M (pc + 1) l (qI (s 39 i) :: st) s Q) : qR w d M pc l (qI i :: .ref 39 :: st) s Q :=
  qS_mem hd rfl rfl (fun _ => rfl) (by
    show zaldZ (hp s w.2.2.2) (qI i :: .ref 39 :: st) = some (qI (s 39 i) :: st)
    unfold zaldZ
    dsimp only [qI]
    rw [hpz]
    obtain ⟨q1, q2⟩ := qi_in (n := 9) h0 h1 (by omega)
    simp only [q1, q2, and_self, if_true, Int.toNat_of_nonneg h0]) k
theorem qS_bastore {i v : Int} (hd : decode M.2.2.1 pc = .ok (.bastore, 1)) (hv : vp_nar .boolean (Int32.ofInt v) = Int32.ofInt v) (h0 : 0 ≤ i) (h1 : i < 9) (k : qR w d M (pc + 1) l st (qset s 39 i v) Q) : qR w d M pc l (qI v :: qI i :: .ref 39 :: st) s Q :=
  qS_wr hd rfl rfl (fun _ => rfl) (fun _ => rfl) (by
    show zastZ (hp s w.2.2.2) (qI v :: qI i :: .ref 39 :: st) = _
    unfold zastZ
    dsimp only [qI]
    rw [hpz]
    obtain ⟨q1, q2⟩ := qi_in (n := 9) h0 h1 (by omega)
    simp only [q1, q2, and_self, if_true, hv]
    rw [hpz_set s _ h0 v]) k
theorem qS_alen {a : Nat} (hd : decode M.2.2.1 pc = .ok (.arraylength, 1)) (ha : 0 < qlen a) (k : qR w d M (pc + 1) l (qI (qlen a) :: st) s Q) : qR w d M pc l (.ref a :: st) s Q :=
  qS_mem hd rfl rfl (fun _ => rfl) (by
    show zalen (hp s w.2.2.2) (.ref a :: st) = _
    unfold zalen
    dsimp only [qI]
    rw [hp_arr s _ a ha]
    rfl) k
theorem qS_ldc {i : Instr} {len : Nat} {v : Value} (hd : decode M.2.2.1 pc = .ok (i, len)) (hb : zbr pc len i st = none) (hlen : len = zlen i) (h1 : ∀ l', zpure M.2.2.2.1 i l' st = none) (h : ∀ h, zmem w.T M.1 i h st = some (v :: st)) (k : qR w d M (pc + len) l (v :: st) s Q) : qR w d M pc l st s Q := qS_mem hd hb hlen h1 (h _) k
/-- the old world -/
theorem qS_ex {i : Instr} {len : Nat} {st' : List Value} (hd : decode M.2.2.1 pc = .ok (i, len)) (hb : zbr pc len i st = none) (hl : len = zlen i) (h1 : ∀ l', zpure M.2.2.2.1 i l' st = none) (h2 : ∀ h, zmem w.T M.1 i h st = none) (h3 : ∀ h, zwr w.T M.1 M.2.2.2.2.2.1 i h st = none) (h4 : zth w.T M.1 M.2.2.1 M.2.2.2.2.2.2 pc i st = none) (h5 : ∀ h, znw w.T M.1 i h st = none) (h6 : zoi w.T M.1 i st = none) (h7 : ∀ h, zcl w.T M.1 i h st = none) (h8 : zrt M.2.2.2.2.1 i st = none) (h9 : zText w.T M.1 i st = some st') (k : qR w d M (pc + len) l st' s Q) : qR w d M pc l st s Q :=
  qS_on (fun l' _ => zS_ex hd hb hl (h1 l') (h2 _) (h3 _) h4 (h5 _) h6 (h7 _) h8 h9) k
end QM
