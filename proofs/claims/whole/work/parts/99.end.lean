/-! THE END: the state behind the constructors, the law's run, the claim -/
def s00 : qS := fun k => match k with
  | 1 => fun j => if j = 3 then -2 else 0
  | 25 => fun j => if j = 6 then -2 else 0
  | 26 => fun j => if j < 203 then ((wLt.getD j.toNat 0 : Nat) : Int) else 0
  | _ => fun _ => 0
theorem FLt_s : FLt 203 = fun j => Int32.ofInt (s00 26 ((j : Nat) : Int)) := by
  funext j
  show (if j < 203 then Int32.ofInt ((wLt.getD j 0 : Nat) : Int) else 0) = Int32.ofInt (if (j : Int) < 203 then ((wLt.getD ((j : Int)).toNat 0 : Nat) : Int) else 0)
  by_cases c : j < 203
  · rw [if_pos c, if_pos (by omega), show ((j : Int)).toNat = j by omega]
  · rw [if_neg c, if_neg (by omega)]
    rfl
set_option maxRecDepth 100000 in
theorem yh_s : yh114 = hp s00 (xo (fun _ => 0) (fun _ => 0)) := by
  unfold yh114
  rw [FLt_s]
  rfl
theorem Sy_00 : Sy s00 := by
  refine ⟨⟨Int.le_refl _, by decide, fun i i0 i1 => absurd i1 (by show ¬ (i < 0); omega)⟩, rfl, fun i i0 i1 => absurd i1 (by show ¬ (i < 0); omega), fun j hj => ?_, rfl, rfl, Or.inl rfl, fun _ => 0, 0, (0, 0, 0, (0, fun _ => 0, fun _ _ => 0), (0, fun _ => 0, fun _ _ => 0), (0, fun _ => 0)), ⟨by decide, by decide, fun i i0 i1 => absurd i1 (by omega)⟩, fun y => absurd y (by decide)⟩
  show (if (j : Int) < 203 then ((wLt.getD ((j : Int)).toNat 0 : Nat) : Int) else 0) = _
  rw [if_pos (by omega), show ((j : Int)).toNat = j by omega]
theorem qgoal : qGoal := by
  intro L xs fv hL hv
  have h := yc_law (w := (L, xs, fv, [])) (R := fun r => r.1 = .inl (some (.int 1)) ∧ r.2.2.1 ≤ 601024 ∧ r.2.2.2 ≤ 7293034) (by
    rw [yh_s]
    refine (law_loop (w := (L, xs, fv, [])) hv hL 512 0 (by decide) (by decide) (by show (L : Int) < _; omega) s00 _ _ Sy_00).mono (fun r hr => ?_)
    obtain ⟨q1, q2, q3⟩ := hr
    exact ⟨q1, (show 43 + r.2.2.1 ≤ 601024 by omega), (show 13562 + r.2.2.2 ≤ 7293034 by omega)⟩)
  obtain ⟨r, ⟨h1, h2, h3⟩, n, hn⟩ := h [(0, .retAddr 1)] (zsub_c rfl zsub_n)
  obtain ⟨o, h', mc, ms⟩ := r
  have h1 : o = .inl (some (.int 1)) := h1
  subst h1
  exact ⟨20, n, mc, ms, h', by decide, h2, h3, hn⟩
theorem i_vc : Claimed_1_1 ∧ Claimed_1_2 := qvc qgoal
