/-! THE LAW'S WORLD: its two arrays behind the skeleton, the script, its helpers -/
def xo (A : Nat → Int64) (D : Nat → UInt64) : zH := [.inl (2, 1, .inr (.inl A)), .inl (3, 1, .inr (.inr (.inr (.inl D))))]
/-- a helper's call: its answer, what it leaves; at most one exception made -/
def hR (P : Int → qS → (Nat → Int64) → (Nat → UInt64) → Prop) (r : zRs) : Prop := ∃ k s' A' D' mc, mc ≤ 1 ∧ P k s' A' D' ∧ r = (.inl (some (qI k)), hp s' (xo A' D'), mc, 6 * mc)
def hW (w : qE) (e mi : Nat) (as : List Value) (s : qS) (A : Nat → Int64) (D : Nat → UInt64) (P : Int → qS → (Nat → Int64) → (Nat → UInt64) → Prop) : Prop := ∃ k s' A' D' mc, mc ≤ 1 ∧ P k s' A' D' ∧ zX w.T e mi as (hp s (xo A D)) (.inl (some (qI k)), hp s' (xo A' D'), mc, 6 * mc)
/-- the law comes to its end with 1, at the cost of at most K exceptions -/
def LK (K : Nat) (r : zRs) : Prop := r.1 = .inl (some (.int 1)) ∧ r.2.2.1 ≤ K ∧ r.2.2.2 ≤ 6 * K
def scr (w : qE) (j : Int) : Int := (w.2.1 j.toNat).toInt
theorem scr_rg (w : qE) (j : Int) : Rg (scr w j) := qi_rg _
section LR
variable {w : qE} {d pc K : Nat} {M : zM} {l : zL} {st r : List Value} {s : qS} {x : zH} {Hp : zH} {A : Nat → Int64} {D : Nat → UInt64} {R : zRs → Prop} {P : Int → qS → (Nat → Int64) → (Nat → UInt64) → Prop}
theorem yR.hW {mi : Nat} {as : List Value} (hM : zTms w.T mi = some M) (hl : lv_args 0 as = l) (hc : zcat as ≤ M.2.2.2.1) (hs : zsub l l) (k : yR w d M 0 l [] (hp s (xo A D)) (hR P)) : hW w (d + 1) mi as s A D P := by
  obtain ⟨r, ⟨k, s', A', D', mc, h1, h2, h3⟩, h4⟩ := k l hs
  subst h3
  exact ⟨k, s', A', D', mc, h1, h2, zX.of_R hM hc (by rw [hl]; exact h4)⟩
theorem hW.mono {e mi : Nat} {as : List Value} {P' : Int → qS → (Nat → Int64) → (Nat → UInt64) → Prop} (h : hW w e mi as s A D P) (k : ∀ i s' A' D', P i s' A' D' → P' i s' A' D') : hW w e mi as s A D P' := by
  obtain ⟨i, s', A', D', mc, h1, h2, h3⟩ := h
  exact ⟨i, s', A', D', mc, h1, k _ _ _ _ h2, h3⟩
theorem LK.up {q : zRs} (h : LK K q) : LK (K + 1) q := ⟨h.1, by have := h.2.1; omega, by have := h.2.2; omega⟩
theorem yR.up (h : yR w d M pc l st Hp (LK K)) : yR w d M pc l st Hp (LK (K + 1)) := h.mono (fun _ => LK.up)
theorem yS_hW {ix mi e n : Nat} {as : List Value} (hd : decode M.2.2.1 pc = .ok (.invokestatic ix, 3)) (hm : zTml w.T M.1 ix = some (mi, 0, n)) (ha : zargs n st = some (as, r)) (hz : zcat r ≤ 16) (he : e ≤ d) (H : hW w e mi as s A D (fun k s1 A1 D1 => yR w d M (pc + 3) l (qI k :: r) (hp s1 (xo A1 D1)) (LK K))) : yR w d M pc l st (hp s (xo A D)) (LK (K + 1)) := by
  obtain ⟨k, s', A', D', mc, h1, h2, h3⟩ := H
  refine yS_clk hd rfl rfl (fun _ => rfl) rfl rfl rfl rfl rfl (zcl_s hm ha hz) he h3 (h2.mono (fun q hq => ?_))
  obtain ⟨q1, q2, q3⟩ := hq
  refine ⟨q1, ?_, ?_⟩
  · show mc + q.2.2.1 ≤ K + 1; omega
  · show 6 * mc + q.2.2.2 ≤ 6 * (K + 1); omega
theorem yS_lastore {v : Int64} (hd : decode M.2.2.1 pc = .ok (.lastore, 1)) (k : yR w d M (pc + 1) l st (hp s (xo (vp_updL A 0 v) D)) R) : yR w d M pc l (.long v :: qI 0 :: .ref 41 :: st) (hp s (xo A D)) R :=
  yS_wr hd rfl rfl (fun _ => rfl) (fun _ => rfl) rfl k
theorem yS_dastore {v : UInt64} (hd : decode M.2.2.1 pc = .ok (.dastore, 1)) (k : yR w d M (pc + 1) l st (hp s (xo A (vf_upd D 0 v))) R) : yR w d M pc l (.double v :: qI 0 :: .ref 42 :: st) (hp s (xo A D)) R :=
  yS_wr hd rfl rfl (fun _ => rfl) (fun _ => rfl) rfl k
theorem yS_laload (hd : decode M.2.2.1 pc = .ok (.laload, 1)) (k : yR w d M (pc + 1) l (.long (A 0) :: st) (hp s (xo A D)) R) : yR w d M pc l (qI 0 :: .ref 41 :: st) (hp s (xo A D)) R :=
  yS_mem hd rfl rfl (fun _ => rfl) rfl k
theorem yS_daload (hd : decode M.2.2.1 pc = .ok (.daload, 1)) (k : yR w d M (pc + 1) l (.double (D 0) :: st) (hp s (xo A D)) R) : yR w d M pc l (qI 0 :: .ref 42 :: st) (hp s (xo A D)) R :=
  yS_mem hd rfl rfl (fun _ => rfl) rfl k
theorem zscr {k : Nat} {j : Int} (h0 : 0 ≤ j) (h1 : j < w.1) (hL : w.1 ≤ 2048) : zText w.T k .iaload (qI j :: .retAddr 1 :: st) = some (qI (scr w j) :: st) := by
  have hr : Rg j := ⟨by omega, by omega⟩
  have hz : ¬ (Int32.ofInt j < 0) := by
    intro c
    have := (qi_lt hr (b := 0) ⟨by decide, by decide⟩).mp c
    omega
  have hn := qi_nat h0 hr
  show zaget (qX w.1 w.2.1 w.2.2.1) .iaload (qI j :: .retAddr 1 :: st) = _
  unfold zaget
  show (if zaty .iaload .int = true ∧ ¬ (Int32.ofInt j < 0) ∧ (Int32.ofInt j).toNatClampNeg < w.1 ∧ zgood (.int (w.2.1 (Int32.ofInt j).toNatClampNeg)) = true ∧ zlen .iaload = 1 then some (.int (w.2.1 (Int32.ofInt j).toNatClampNeg) :: st) else none) = _
  rw [hn, if_pos ⟨rfl, hz, by omega, rfl, rfl⟩]
  unfold scr
  rw [qI, qi_of]
theorem yS_scr {j : Int} (hd : decode M.2.2.1 pc = .ok (.iaload, 1)) (h0 : 0 ≤ j) (h1 : j < w.1) (hL : w.1 ≤ 2048) (k : yR w d M (pc + 1) l (qI (scr w j) :: st) Hp R) : yR w d M pc l (qI j :: .retAddr 1 :: st) Hp R :=
  yS_ex hd rfl rfl (fun _ => rfl) (fun _ => rfl) (fun _ => rfl) rfl (fun _ => rfl) rfl (fun _ => rfl) rfl (zscr h0 h1 hL) k
theorem yS_slen (hd : decode M.2.2.1 pc = .ok (.arraylength, 1)) (k : yR w d M (pc + 1) l (qI (w.1 : Int) :: st) Hp R) : yR w d M pc l (.retAddr 1 :: st) Hp R :=
  yS_ex hd rfl rfl (fun _ => rfl) (fun _ => rfl) (fun _ => rfl) rfl (fun _ => rfl) rfl (fun _ => rfl) rfl rfl k
end LR
