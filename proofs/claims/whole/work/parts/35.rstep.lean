/-! one instruction of the abstract machine, by its kind; runs of any length -/
def zR (T : zTb) (C : Nat → List Value → zH → zRs → Prop) (M : zM) (g : zG) (r : zRs) : Prop := ∃ n, zRun T C M n g r
section ZRS
variable {T : zTb} {C : Nat → List Value → zH → zRs → Prop} {M : zM} {pc len pc' : Nat} {i : Instr} {l l' : zL} {st st' : List Value} {h h' : zH} {r : zRs}
theorem zS_br (hd : decode M.2.2.1 pc = .ok (i, len)) (hb : zbr pc len i st = some (pc', st')) : zstep T M (pc, l, st, h) = some (.inl ((pc', l, st', h), 0, 0)) := by
  unfold zstep
  simp only [hd, hb]
theorem zS_pure (hd : decode M.2.2.1 pc = .ok (i, len)) (hb : zbr pc len i st = none) (hl : len = zlen i) (h1 : zpure M.2.2.2.1 i l st = some (l', st')) : zstep T M (pc, l, st, h) = some (.inl ((pc + len, l', st', h), 0, 0)) := by
  unfold zstep
  simp only [hd, hb, if_pos hl, h1]
theorem zS_mem (hd : decode M.2.2.1 pc = .ok (i, len)) (hb : zbr pc len i st = none) (hl : len = zlen i) (h1 : zpure M.2.2.2.1 i l st = none) (h2 : zmem T M.1 i h st = some st') : zstep T M (pc, l, st, h) = some (.inl ((pc + len, l, st', h), 0, 0)) := by
  unfold zstep
  simp only [hd, hb, if_pos hl, h1, h2]
theorem zS_wr (hd : decode M.2.2.1 pc = .ok (i, len)) (hb : zbr pc len i st = none) (hl : len = zlen i) (h1 : zpure M.2.2.2.1 i l st = none) (h2 : zmem T M.1 i h st = none) (h3 : zwr T M.1 M.2.2.2.2.2.1 i h st = some (h', st')) : zstep T M (pc, l, st, h) = some (.inl ((pc + len, l, st', h'), 0, 0)) := by
  unfold zstep
  simp only [hd, hb, if_pos hl, h1, h2, h3]
theorem zS_th {xi : Nat} (hd : decode M.2.2.1 pc = .ok (i, len)) (hb : zbr pc len i st = none) (hl : len = zlen i) (h1 : zpure M.2.2.2.1 i l st = none) (h2 : zmem T M.1 i h st = none) (h3 : zwr T M.1 M.2.2.2.2.2.1 i h st = none) (h4 : zth T M.1 M.2.2.1 M.2.2.2.2.2.2 pc i st = some xi) : zstep T M (pc, l, st, h) = some (.inr (.inl (.inr xi, h, 1, 6))) := by
  unfold zstep
  simp only [hd, hb, if_pos hl, h1, h2, h3, h4]
theorem zS_nw {dn : Nat} (hd : decode M.2.2.1 pc = .ok (i, len)) (hb : zbr pc len i st = none) (hl : len = zlen i) (h1 : zpure M.2.2.2.1 i l st = none) (h2 : zmem T M.1 i h st = none) (h3 : zwr T M.1 M.2.2.2.2.2.1 i h st = none) (h4 : zth T M.1 M.2.2.1 M.2.2.2.2.2.2 pc i st = none) (h5 : znw T M.1 i h st = some (h', st', dn)) : zstep T M (pc, l, st, h) = some (.inl ((pc + len, l, st', h'), 1, dn)) := by
  unfold zstep
  simp only [hd, hb, if_pos hl, h1, h2, h3, h4, h5]
theorem zS_oi (hd : decode M.2.2.1 pc = .ok (i, len)) (hb : zbr pc len i st = none) (hl : len = zlen i) (h1 : zpure M.2.2.2.1 i l st = none) (h2 : zmem T M.1 i h st = none) (h3 : zwr T M.1 M.2.2.2.2.2.1 i h st = none) (h4 : zth T M.1 M.2.2.1 M.2.2.2.2.2.2 pc i st = none) (h5 : znw T M.1 i h st = none) (h6 : zoi T M.1 i st = some st') : zstep T M (pc, l, st, h) = some (.inl ((pc + len, l, st', h), 0, 0)) := by
  unfold zstep
  simp only [hd, hb, if_pos hl, h1, h2, h3, h4, h5, h6]
theorem zS_cl {mi : Nat} {as rest : List Value} (hd : decode M.2.2.1 pc = .ok (i, len)) (hb : zbr pc len i st = none) (hl : len = zlen i) (h1 : zpure M.2.2.2.1 i l st = none) (h2 : zmem T M.1 i h st = none) (h3 : zwr T M.1 M.2.2.2.2.2.1 i h st = none) (h4 : zth T M.1 M.2.2.1 M.2.2.2.2.2.2 pc i st = none) (h5 : znw T M.1 i h st = none) (h6 : zoi T M.1 i st = none) (h7 : zcl T M.1 i h st = some (mi, as, rest)) :
    zstep T M (pc, l, st, h) = some (.inr (.inr (mi, as, pc, l, rest, h))) := by
  unfold zstep
  simp only [hd, hb, if_pos hl, h1, h2, h3, h4, h5, h6, h7]
theorem zS_rt {v : Option Value} (hd : decode M.2.2.1 pc = .ok (i, len)) (hb : zbr pc len i st = none) (hl : len = zlen i) (h1 : zpure M.2.2.2.1 i l st = none) (h2 : zmem T M.1 i h st = none) (h3 : zwr T M.1 M.2.2.2.2.2.1 i h st = none) (h4 : zth T M.1 M.2.2.1 M.2.2.2.2.2.2 pc i st = none) (h5 : znw T M.1 i h st = none) (h6 : zoi T M.1 i st = none) (h7 : zcl T M.1 i h st = none) (h8 : zrt M.2.2.2.2.1 i st = some v) :
    zstep T M (pc, l, st, h) = some (.inr (.inl (.inl v, h, 0, 0))) := by
  unfold zstep
  simp only [hd, hb, if_pos hl, h1, h2, h3, h4, h5, h6, h7, h8]
theorem zS_ex (hd : decode M.2.2.1 pc = .ok (i, len)) (hb : zbr pc len i st = none) (hl : len = zlen i) (h1 : zpure M.2.2.2.1 i l st = none) (h2 : zmem T M.1 i h st = none) (h3 : zwr T M.1 M.2.2.2.2.2.1 i h st = none) (h4 : zth T M.1 M.2.2.1 M.2.2.2.2.2.2 pc i st = none) (h5 : znw T M.1 i h st = none) (h6 : zoi T M.1 i st = none) (h7 : zcl T M.1 i h st = none) (h8 : zrt M.2.2.2.2.1 i st = none) (h9 : zText T M.1 i st = some st') :
    zstep T M (pc, l, st, h) = some (.inl ((pc + len, l, st', h), 0, 0)) := by
  unfold zstep
  simp only [hd, hb, if_pos hl, h1, h2, h3, h4, h5, h6, h7, h8, h9]
theorem zadd_0 (r : zRs) : zadd 0 0 r = r := by unfold zadd; simp
theorem zadd_add (a b c d : Nat) (r : zRs) : zadd a b (zadd c d r) = zadd (a + c) (b + d) r := by unfold zadd; simp [Nat.add_assoc]
/-- on by one step -/
theorem zR.on {g g' : zG} (hs : zstep T M g = some (.inl (g', 0, 0))) (k : zR T C M g' r) : zR T C M g r := by
  obtain ⟨n, hn⟩ := k
  refine ⟨n + 1, ?_⟩
  unfold zRun
  rw [hs]
  exact ⟨r, hn, (zadd_0 r).symm⟩
theorem zR.add {g g' : zG} {dc ds : Nat} (hs : zstep T M g = some (.inl (g', dc, ds))) (k : zR T C M g' r) : zR T C M g (zadd dc ds r) := by
  obtain ⟨n, hn⟩ := k
  refine ⟨n + 1, ?_⟩
  unfold zRun
  rw [hs]
  exact ⟨r, hn, rfl⟩
theorem zR.ret {g : zG} {e : zRs} (hs : zstep T M g = some (.inr (.inl e))) : zR T C M g e := by
  refine ⟨1, ?_⟩
  unfold zRun
  rw [hs]
/-- a call that comes back -/
theorem zR.call {g : zG} {mi : Nat} {as rest : List Value} {v : Option Value} {mc ms : Nat} (hs : zstep T M g = some (.inr (.inr (mi, as, pc, l, rest, h)))) (hc : C mi as h (.inl v, h', mc, ms)) (k : zR T C M (pc + 3, l, v.toList ++ rest, h') r) : zR T C M g (zadd mc ms r) := by
  obtain ⟨n, hn⟩ := k
  refine ⟨n + 1, ?_⟩
  unfold zRun
  rw [hs]
  exact ⟨_, hc, r, hn, rfl⟩
/-- a call that throws, past the method -/
theorem zR.thrown {g : zG} {mi x : Nat} {as rest : List Value} {mc ms : Nat} (hs : zstep T M g = some (.inr (.inr (mi, as, pc, l, rest, h)))) (hc : C mi as h (.inr x, h', mc, ms)) (h1 : zhand M.2.2.2.2.2.2 pc x = none) (h2 : zcov M.2.2.2.2.2.2 pc = false) : zR T C M g (.inr x, h', mc, ms) := by
  refine ⟨1, ?_⟩
  unfold zRun
  rw [hs]
  refine ⟨_, hc, ?_⟩
  dsimp only
  rw [h1]
  exact ⟨h2, rfl⟩
/-- a call that throws, caught -/
theorem zR.caught {g : zG} {mi x hp : Nat} {as rest : List Value} {mc ms : Nat} (hs : zstep T M g = some (.inr (.inr (mi, as, pc, l, rest, h)))) (hc : C mi as h (.inr x, h', mc, ms)) (h1 : zhand M.2.2.2.2.2.2 pc x = some hp) (k : zR T C M (hp, l, [.retAddr 0], h') r) : zR T C M g (zadd mc ms r) := by
  obtain ⟨n, hn⟩ := k
  refine ⟨n + 1, ?_⟩
  unfold zRun
  rw [hs]
  refine ⟨_, hc, ?_⟩
  dsimp only
  rw [h1]
  exact ⟨r, hn, rfl⟩
theorem zX.of_R {d mi : Nat} {as : List Value} (hM : zTms T mi = some M) (hc : zcat as ≤ M.2.2.2.1) (k : zR T (zX T d) M (0, lv_args 0 as, [], h) r) : zX T (d + 1) mi as h r := by
  obtain ⟨n, hn⟩ := k
  exact ⟨M, n, hM, hc, hn⟩
end ZRS
