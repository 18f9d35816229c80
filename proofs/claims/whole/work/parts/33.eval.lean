/-! the abstract machine as a program -/
def zrunF (T : zTb) (C : Nat → List Value → zH → Option zRs) (M : zM) : Nat → zG → Option zRs
  | 0, _ => none
  | n + 1, g => match zstep T M g with
    | none => none
    | some (.inl (g', dc, ds)) => match zrunF T C M n g' with
      | some r' => some (zadd dc ds r')
      | none => none
    | some (.inr (.inl e)) => some e
    | some (.inr (.inr (mi, as, pc, l, rest, h))) => match C mi as h with
      | none => none
      | some rc => match rc.1 with
        | .inl v => match zrunF T C M n (pc + 3, l, v.toList ++ rest, rc.2.1) with
          | some r' => some (zadd rc.2.2.1 rc.2.2.2 r')
          | none => none
        | .inr x => match zhand M.2.2.2.2.2.2 pc x with
          | some hp => match zrunF T C M n (hp, l, [.retAddr 0], rc.2.1) with
            | some r' => some (zadd rc.2.2.1 rc.2.2.2 r')
            | none => none
          | none => if zcov M.2.2.2.2.2.2 pc = false then some rc else none
def zXF (T : zTb) (N : Nat) : Nat → Nat → List Value → zH → Option zRs
  | 0, _, _, _ => none
  | d + 1, mi, as, h => match zTms T mi with
    | none => none
    | some M => if zcat as ≤ M.2.2.2.1 then zrunF T (zXF T N d) M N (0, lv_args 0 as, [], h) else none
theorem zrunF_ok {T : zTb} {C : Nat → List Value → zH → Option zRs} {C' : Nat → List Value → zH → zRs → Prop} {M : zM} (hC : ∀ mi as h r, C mi as h = some r → C' mi as h r) : ∀ (n : Nat) (g : zG) (r : zRs), zrunF T C M n g = some r → zRun T C' M n g r := by
  intro n
  induction n with
  | zero => intro g r h; cases h
  | succ n ih =>
    intro g r h
    unfold zrunF at h
    unfold zRun
    split at h
    · cases h
    · next g' dc ds e =>
      rw [e]
      split at h
      · next r' e' => cases h; exact ⟨r', ih _ _ e', rfl⟩
      · cases h
    · next e' e =>
      rw [e]
      cases h
      rfl
    · next mi as pc l rest hh e =>
      rw [e]
      split at h
      · cases h
      · next rc e1 =>
        refine ⟨rc, hC _ _ _ _ e1, ?_⟩
        split at h
        · next v e2 =>
          rw [e2]
          split at h
          · next r' e' => cases h; exact ⟨r', ih _ _ e', rfl⟩
          · cases h
        · next x e2 =>
          rw [e2]
          dsimp only
          split at h
          · next hp e3 =>
            rw [e3]
            split at h
            · next r' e' => cases h; exact ⟨r', ih _ _ e', rfl⟩
            · cases h
          · next e3 =>
            rw [e3]
            split at h
            · next e4 => cases h; exact ⟨e4, rfl⟩
            · cases h
theorem zXF_ok {T : zTb} {N : Nat} : ∀ (d mi : Nat) (as : List Value) (h : zH) (r : zRs), zXF T N d mi as h = some r → zX T d mi as h r := by
  intro d
  induction d with
  | zero => intro mi as h r e; cases e
  | succ d ih =>
    intro mi as h r e
    unfold zXF at e
    split at e
    · cases e
    · next M hM =>
      split at e
      · next hc => exact ⟨M, N, hM, hc, zrunF_ok ih _ _ _ e⟩
      · cases e
def zTest (L : Nat) (xs : Nat → Int32) (d N : Nat) : Option (zO × Nat × Nat × Nat) := (zrunF (qTT L xs .null) (zXF (qTT L xs .null) N d) qmL N (0, [(0, .retAddr 1)], [], [])).map (fun r => (r.1, r.2.1.length, r.2.2.1, r.2.2.2))
