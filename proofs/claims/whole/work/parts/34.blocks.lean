/-! straight pieces of code -/
/-- k steps that stay in the method -/
def zsteps (T : zTb) (M : zM) : Nat → zG → Option (zG × Nat × Nat)
  | 0, g => some (g, 0, 0)
  | k + 1, g => match zstep T M g with
    | some (.inl (g', dc, ds)) => match zsteps T M k g' with
      | some (g2, ec, es) => some (g2, dc + ec, ds + es)
      | none => none
    | _ => none
theorem zsteps_run {T : zTb} {C : Nat → List Value → zH → zRs → Prop} {M : zM} : ∀ (k : Nat) {n : Nat} {g g2 : zG} {dc ds : Nat} {r : zRs}, zsteps T M k g = some (g2, dc, ds) → zRun T C M n g2 r → zRun T C M (n + k) g (zadd dc ds r) := by
  intro k
  induction k with
  | zero =>
    intro n g g2 dc ds r h hr
    cases h
    have e : zadd 0 0 r = r := by unfold zadd; simp
    rw [e]
    exact hr
  | succ k ih =>
    intro n g g2 dc ds r h hr
    unfold zsteps at h
    split at h
    · next g' ec es e1 =>
      split at h
      · next g3 fc fs e2 =>
        cases h
        show zRun T C M ((n + k) + 1) g _
        unfold zRun
        rw [e1]
        refine ⟨_, ih e2 hr, ?_⟩
        unfold zadd
        simp [Nat.add_assoc]
      · cases h
    · cases h
