/-! the class reads a TEXT, an ENTRY -/
/-- what the characters of a text change: those at the places from the old count on -/
def qTxP (s s' : qS) (B : Int → Int) (p : Int) (cnt : Nat) : Prop := s' 3 3 = s 3 3 + cnt ∧ (∀ x, x < s 3 3 → s' 6 x = s 6 x) ∧ (∀ j : Nat, j < cnt → s' 6 (s 3 3 + j) = cDec B (cpos B p j)) ∧ ∀ k, k ≠ 1 → k ≠ 3 → k ≠ 6 → s' k = s k
theorem qTxP.step {s s' : qS} {B : Int → Int} {p q : Int} {cnt : Nat} (h : qTxP (qset (qset (qset s 1 2 q) 6 (s 3 3) (cDec B p)) 3 3 (s 3 3 + 1)) s' B (p + cw (B p)) cnt) : qTxP s s' B p (1 + cnt) := by
  obtain ⟨h1, h2, h3, h4⟩ := h
  have e1 : qset (qset (qset s 1 2 q) 6 (s 3 3) (cDec B p)) 3 3 (s 3 3 + 1) 3 3 = s 3 3 + 1 := by simp [qset_eq]
  have e2 : ∀ x, qset (qset (qset s 1 2 q) 6 (s 3 3) (cDec B p)) 3 3 (s 3 3 + 1) 6 x = if x = s 3 3 then cDec B p else s 6 x := by intro x; simp [qset_eq]
  rw [e1] at h1 h2 h3
  refine ⟨by rw [h1]; omega, fun x hx => ?_, fun j hj => ?_, fun k k1 k3 k6 => ?_⟩
  · rw [h2 x (by omega), e2, if_neg (by omega)]
  · cases j with
    | zero =>
      have : s 3 3 + ((0 : Nat) : Int) = s 3 3 := by omega
      rw [this, h2 _ (by omega), e2, if_pos rfl]
      rfl
    | succ j =>
      have : s 3 3 + ((j + 1 : Nat) : Int) = s 3 3 + 1 + (j : Int) := by omega
      rw [this, h3 j (by omega), cpos_succ]
  · rw [h4 k k1 k3 k6, qset_cell _ k3, qset_cell _ k6, qset_cell _ k1]
def eBody (B : Int → Int) (n p t : Int) : Int ⊕ Int :=
  if t = 1 then bd (rU2 B n (p + 1)) (fun m => bd (rBy n (p + 3) m) (fun _ => rTx B (p + 3 + m) m.toNat (p + 3)))
  else if t = 3 ∨ t = 4 then bd (rU4 B n (p + 1)) (fun _ => .inr (p + 5))
  else if t = 5 ∨ t = 6 then bd (rU4 B n (p + 1)) (fun _ => bd (rU4 B n (p + 5)) (fun _ => .inr (p + 9)))
  else if t = 7 ∨ t = 8 ∨ t = 16 then bd (rU2 B n (p + 1)) (fun _ => .inr (p + 3))
  else if t = 9 ∨ t = 10 ∨ t = 11 ∨ t = 12 ∨ t = 17 ∨ t = 18 then bd (rU2 B n (p + 1)) (fun _ => bd (rU2 B n (p + 3)) (fun _ => .inr (p + 5)))
  else if t = 15 then bd (rU1 B n (p + 1)) (fun _ => bd (rU2 B n (p + 2)) (fun _ => .inr (p + 4)))
  else .inl p
/-- how many characters the text at p has -/
def eN (B : Int → Int) (p : Int) : Nat := nch B (p + 3 + b2 B (p + 1)) (b2 B (p + 1)).toNat (p + 3)
def eF (B : Int → Int) (p : Int) : Int := if B p = 1 then (eN B p : Int) else if B p = 3 ∨ B p = 4 ∨ B p = 5 ∨ B p = 6 then b4 B (p + 1) else if B p = 15 then B (p + 1) else b2 B (p + 1)
def eS (B : Int → Int) (p : Int) : Int := if B p = 5 ∨ B p = 6 then b4 B (p + 5) else if B p = 9 ∨ B p = 10 ∨ B p = 11 ∨ B p = 12 ∨ B p = 17 ∨ B p = 18 then b2 B (p + 3) else if B p = 15 then b2 B (p + 2) else 0
/-- what an entry's body leaves in row i -/
def qEnt (s s' : qS) (B : Int → Int) (i p : Int) : Prop := (∀ k, k ≠ 1 → k ≠ 3 → k ≠ 5 → k ≠ 6 → s' k = s k) ∧ (∀ x, x < i * 6 → s' 5 x = s 5 x) ∧ s' 5 (i * 6 + 0) = B p ∧ s' 5 (i * 6 + 1) = eF B p ∧ s' 5 (i * 6 + 2) = eS B p ∧ s' 5 (i * 6 + 3) = p ∧ (∀ x, x < s 3 3 → s' 6 x = s 6 x) ∧
  ((B p ≠ 1 ∧ s' 3 3 = s 3 3 ∧ s' 5 (i * 6 + 4) = 0) ∨ (B p = 1 ∧ s' 5 (i * 6 + 4) = s 3 3 ∧ s' 3 3 = s 3 3 + (eN B p : Int) ∧ ∀ j : Nat, j < eN B p → s' 6 (s 3 3 + j) = cDec B (cpos B (p + 3) j)))
section EN
variable {w : qE} {s s0 : qS} {B : Int → Int} {n p e i : Int} {f : Int → qS → Prop} {fv : qS → Prop} {g : Nat → qS → Prop}
theorem c_set {r c x : Int} (hn : 0 ≤ s 4 2 ∧ s 4 2 ≤ 250) (hi : 0 ≤ r ∧ r < s 4 2) (hc : 0 ≤ c ∧ c < 6) (H : fv (qset s 5 (r * 6 + c) x)) : qW w 1 27 [.ref 4, qI r, qI c, qI x] s (qPV fv g) := by
  have e1 : qwid 4 = 6 := rfl
  have e2 : (qlen (4 + 1) : Int) = 1500 := rfl
  refine c27 (t := 4) (by decide) ⟨by omega, by omega⟩ ⟨by omega, by omega⟩ ⟨hn.1, by rw [e1, e2]; omega⟩ ⟨hi.1, hi.2, hc.1, by rw [e1]; exact hc.2⟩ ?_
  rw [e1]
  exact H
theorem c28_loop (hB : qB B n) {v1 v4 m : Int} (he : e ≤ n) (hm : 0 ≤ m ∧ m ≤ 65535) : ∀ (d : Nat) (p : Int) (s : qS), (d : Int) ≤ m → 0 ≤ p → p ≤ e → e - p ≤ d → 0 ≤ s 3 3 → s 3 3 ≤ p → qAt s0 B n p s → qRes (rTx B e d p) (fun e => ∀ s', qFt s0 n e s' → g 0 s') (fun q => ∀ s', qAt s0 B n q s' → qTxP s s' B p (nch B e d p) → qR w 2 qm28 64 [(0, .ref 3), (1, qI v1), (4, qI v4)] [] s' (qPV fv g)) →
    qR w 2 qm28 36 [(0, .ref 3), (1, qI v1), (2, qI m), (3, qI e), (4, qI v4), (5, qI (m - d))] [] s (qPV fv g) := by
  have h5 := hB.2.1
  have hrefl : ∀ (s : qS) (p : Int), qTxP s s B p 0 := fun s p => ⟨by omega, fun _ _ => rfl, fun j hj => absurd hj (by omega), fun _ _ _ _ => rfl⟩
  intro d
  induction d with
  | zero =>
    intro p s hd h0 h1 h2 hu hu2 hA H
    refine k28_36 ⟨⟨by omega, by omega⟩, ⟨by omega, by omega⟩, fun c => absurd c (by omega), fun _ => ?_⟩
    exact H s hA (hrefl s p)
  | succ d ih =>
    intro p s hd h0 h1 h2 hu hu2 hA H
    unfold rTx at H
    refine k28_36 ⟨⟨by omega, by omega⟩, ⟨by omega, by omega⟩, fun _ => c21 ?_, fun c => absurd c (by omega)⟩
    rw [hA.2.1]
    refine ⟨⟨by omega, by omega⟩, ⟨by omega, by omega⟩, fun c => ?_, fun c => ?_⟩
    · rw [if_pos c] at H
      refine c30 hB hA h0 c he ⟨hu, by omega⟩ (fun z => ?_) (fun z => ?_)
      · rw [if_neg (by rw [z]; decide)] at H
        exact H
      · rw [if_pos z] at H
        have r := cOk_r z
        have r2 := cw_rg (B p)
        have hA2 := ((hA.mv (p + cw (B p))).set (k := 6) (j := s 3 3) (v := cDec B p) ⟨by decide, by decide⟩).set (k := 3) (j := 3) (v := s 3 3 + 1) ⟨by decide, by decide⟩
        have e1 : qset (qset (qset s 1 2 (p + cw (B p))) 6 (s 3 3) (cDec B p)) 3 3 (s 3 3 + 1) 3 3 = s 3 3 + 1 := by simp [qset_eq]
        have := ih (p + cw (B p)) _ (by omega) (by omega) r.2 (by omega) (by rw [e1]; omega) (by rw [e1]; omega) hA2 (qRes_mono H (fun _ _ h => h) (fun q _ h s' a b => h s' a (by
          unfold nch
          rw [if_pos c]
          exact b.step)))
        have e2 : m - ((d + 1 : Nat) : Int) + 1 = m - (d : Int) := by omega
        rw [e2]
        exact this
    · rw [if_neg (by omega)] at H
      refine H s hA ?_
      unfold nch
      rw [if_neg (by omega)]
      exact hrefl s p
theorem c28 (hB : qB B n) (hA : qAt s0 B n p s) (h0 : 0 ≤ p) (h1 : p ≤ n) (hr : 0 ≤ s 4 2 ∧ s 4 2 ≤ 250) (hi : 0 ≤ i ∧ i < s 4 2) (hu : 0 ≤ s 3 3 ∧ s 3 3 ≤ p)
    (H : qRes (bd (rU2 B n p) (fun m => bd (rBy n (p + 2) m) (fun _ => rTx B (p + 2 + m) m.toNat (p + 2)))) (fun e => ∀ s', qFt s0 n e s' → g 0 s') (fun q => ∀ s', qAt s0 B n q s' → qTxP s s' B (p + 2) (nch B (p + 2 + b2 B p) (b2 B p).toNat (p + 2)) → fv (qset (qset s' 5 (i * 6 + 4) (s 3 3)) 5 (i * 6 + 1) (s' 3 3 - s 3 3)))) : qW w 3 28 [.ref 3, qI i] s (qPV fv g) := by
  have h5 := hB.2.1
  rw [qRes_bd] at H
  refine k28 (c_u2 hB hA h0 h1 (qRes_mono H (fun e _ h => h) (fun v hv H => ?_)))
  obtain ⟨q1, rfl⟩ := rU2_r hv
  have r := b2_rg hB h0 q1
  rw [qRes_bd] at H
  have hA2 := hA.mv (p + 2)
  have e3 : qset s 1 2 (p + 2) 3 3 = s 3 3 := by simp [qset_eq]
  refine c29 hB hA2 (by omega) q1 ⟨by omega, by omega⟩ (qRes_mono H (fun e _ h => h) (fun _ hv2 H => ?_))
  have r2 := rBy_r hv2
  refine c21 ?_
  rw [hA2.2.1, e3]
  have := c28_loop (w := w) (fv := fv) (v1 := i) (v4 := s 3 3) (m := b2 B p) hB (e := p + 2 + b2 B p) (by omega) r (b2 B p).toNat (p + 2) (qset s 1 2 (p + 2)) (by omega) (by omega) (by omega) (by omega) (by rw [e3]; omega) (by rw [e3]; omega) hA2 (qRes_mono H (fun e _ h => h) (fun q hq H s' a b => ?_))
  · have e4 : b2 B p - ((b2 B p).toNat : Int) = 0 := by omega
    rw [e4] at this
    exact this
  · have b4 := b.2.2.2 4 (by decide) (by decide) (by decide)
    have e6 : s' 4 2 = s 4 2 := by rw [b4]; simp [qset_eq]
    have e7 : ∀ v, qset s' 5 (i * 6 + 4) v 4 2 = s 4 2 := fun v => by rw [qset_cell _ (by decide), e6]
    have e8 : ∀ v, qset s' 5 (i * 6 + 4) v 3 3 = s' 3 3 := fun v => by rw [qset_cell _ (by decide)]
    refine k28_64 (c_set (by rw [e6]; exact hr) (by rw [e6]; exact hi) (by omega) ?_)
    rw [e8]
    refine c_set (by rw [e7]; exact hr) (by rw [e7]; exact hi) (by omega) ?_
    refine H s' a ?_
    obtain ⟨b1, b2, b3, b5⟩ := b
    rw [e3] at b1 b2 b3
    refine ⟨b1, fun x hx => ?_, b3, fun k k1 k3 k6 => ?_⟩
    · rw [b2 x hx, qset_cell _ (by decide)]
    · rw [b5 k k1 k3 k6, qset_cell _ k1]
/-- a number of 1, 2 or 4 bytes -/
def rNx (B : Int → Int) (n p m : Int) : Int ⊕ Int := if m = 1 then rU1 B n p else if m = 2 then rU2 B n p else rU4 B n p
def bN (B : Int → Int) (p m : Int) : Int := if m = 1 then B p else if m = 2 then b2 B p else b4 B p
theorem c_nx {m : Int} (hm : m = 1 ∨ m = 2 ∨ m = 4) (hB : qB B n) (hA : qAt s0 B n p s) (h0 : 0 ≤ p) (h1 : p ≤ n) (H : qRes (rNx B n p m) (fun e => ∀ s', qFt s0 n e s' → g 0 s') (fun _ => f (bN B p m) (qset s 1 2 (p + m)))) : qW w 1 19 [.ref 1, qI m] s (qPI f g) := by
  rcases hm with rfl | rfl | rfl
  · refine c_u1 hB hA h0 h1 (qRes_mono H (fun _ _ h => h) (fun v hv h => ?_))
    rw [(rU1_r hv).2]; exact h
  · refine c_u2 hB hA h0 h1 (qRes_mono H (fun _ _ h => h) (fun v hv h => ?_))
    rw [(rU2_r hv).2]; exact h
  · refine c_u4 hB hA h0 h1 (qRes_mono H (fun _ _ h => h) (fun v hv h => ?_))
    rw [(rU4_r hv).2]; exact h
theorem rNx_r {m v : Int} (hm : m = 1 ∨ m = 2 ∨ m = 4) (h : rNx B n p m = .inr v) : p + m ≤ n := by
  rcases hm with rfl | rfl | rfl
  · exact (rU1_r h).1
  · exact (rU2_r h).1
  · exact (rU4_r h).1
theorem c32 {m1 m2 : Int} (hm1 : m1 = 1 ∨ m1 = 2 ∨ m1 = 4) (hm2 : m2 = 1 ∨ m2 = 2 ∨ m2 = 4) (hB : qB B n) (hA : qAt s0 B n p s) (h0 : 0 ≤ p) (h1 : p ≤ n) (hr : 0 ≤ s 4 2 ∧ s 4 2 ≤ 250) (hi : 0 ≤ i ∧ i < s 4 2) (H : qRes (bd (rNx B n p m1) (fun _ => bd (rNx B n (p + m1) m2) (fun _ => .inr (p + m1 + m2)))) (fun e => ∀ s', qFt s0 n e s' → g 0 s') (fun q => fv (qset (qset (qset (qset s 1 2 (p + m1)) 5 (i * 6 + 1) (bN B p m1)) 1 2 q) 5 (i * 6 + 2) (bN B (p + m1) m2)))) : qW w 2 32 [.ref 3, qI i, qI m1, qI m2] s (qPV fv g) := by
  rw [qRes_bd] at H
  refine k32 (c_nx hm1 hB hA h0 h1 (qRes_mono H (fun _ _ h => h) (fun v hv H => ?_)))
  have q1 := rNx_r hm1 hv
  have e1 : qset s 1 2 (p + m1) 4 2 = s 4 2 := by rw [qset_cell _ (by decide)]
  refine c_set (by rw [e1]; exact hr) (by rw [e1]; exact hi) (by omega) ?_
  rw [qRes_bd] at H
  have hA2 := (hA.mv (p + m1)).set (k := 5) (j := i * 6 + 1) (v := bN B p m1) ⟨by decide, by decide⟩
  refine c_nx hm2 hB hA2 (by rcases hm1 with rfl | rfl | rfl <;> omega) q1 (qRes_mono H (fun _ _ h => h) (fun v2 hv2 H => ?_))
  have e2 : ∀ q, qset (qset (qset s 1 2 (p + m1)) 5 (i * 6 + 1) (bN B p m1)) 1 2 q 4 2 = s 4 2 := fun q => by rw [qset_cell _ (by decide), qset_cell _ (by decide), e1]
  exact c_set (by rw [e2]; exact hr) (by rw [e2]; exact hi) (by omega) H
end EN
