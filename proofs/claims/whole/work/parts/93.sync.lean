/-! THE CLASS AND THE MODEL, side by side through the law's calls -/
def Sy (s : qS) : Prop := qB (s 2) (s 1 1) ∧ s 25 3 = s 1 1 ∧ (∀ i, 0 ≤ i → i < s 1 1 → s 27 i = s 2 i) ∧ mL s ∧ s 1 3 = s 25 6 ∧ s 25 9 = s 0 6 ∧ (s 0 6 = 0 ∨ s 0 6 = 1) ∧ ∃ (B : Int → Int) (n : Int) (r : qRes2), qB B n ∧ (s 0 6 = 1 → rRest B n = .inr r ∧ qRd B r s ∧ mFin B n r s)
theorem mL.fr {s s' : qS} (h : mL s) (e : s' 26 = s 26) : mL s' := by
  unfold mL
  rw [e]
  exact h
theorem Sy.fr {s s' : qS} (h : Sy s) (h0 : s' 0 6 = s 0 6) (h1 : s' 1 1 = s 1 1) (h2 : s' 1 3 = s 1 3) (hk : ∀ k, 2 ≤ k → k ≤ 23 → s' k = s k) (hm : ∀ k, 26 ≤ k → k ≤ 39 → s' k = s k) (h25 : ∀ j, j ≠ 7 → j ≠ 27 → j ≠ 28 → s' 25 j = s 25 j) : Sy s' := by
  obtain ⟨a1, a2, a3, a4, a5, a6, a7, B, n, r, a8, a9⟩ := h
  refine ⟨?_, ?_, fun i i0 i1 => ?_, a4.fr (hm 26 (by decide) (by decide)), ?_, ?_, ?_, B, n, r, a8, fun y => ?_⟩
  · rw [hk 2 (by decide) (by decide), h1]; exact a1
  · rw [h25 3 (by decide) (by decide) (by decide), h1]; exact a2
  · rw [hm 27 (by decide) (by decide), hk 2 (by decide) (by decide)]
    rw [h1] at i1
    exact a3 i i0 i1
  · rw [h2, h25 6 (by decide) (by decide) (by decide)]; exact a5
  · rw [h25 9 (by decide) (by decide) (by decide), h0]; exact a6
  · rw [h0]; exact a7
  · rw [h0] at y
    obtain ⟨b1, b2', b3⟩ := a9 y
    exact ⟨b1, b2'.fr (fun k k0 k1 => hk k (by omega) k1), b3.fr hm (fun j j0 j1 => h25 j (by omega) (by omega) (by omega))⟩
theorem Sy.thr {s : qS} (h : Sy s) (v : Int) : Sy (qset s 25 7 v) := h.fr (by rw [qset_cell _ (by decide)]) (by rw [qset_cell _ (by decide)]) (by rw [qset_cell _ (by decide)]) (fun k _ k1 => by rw [qset_cell _ (by omega)]) (fun k k0 _ => by rw [qset_cell _ (by omega)]) (fun j j7 _ _ => by rw [qset_same, if_neg j7])
theorem thr_7 (s : qS) (v : Int) : qset s 25 7 v 25 7 = v := by rw [qset_same, if_pos rfl]
def LA (w : qE) (pc : Nat) (v5 : Int) (K : Nat) : Prop := ∀ s A D, Sy s → yR w 20 qmL pc [(0, .retAddr 1), (1, .ref 0), (2, .ref 25), (3, .ref 41), (4, .ref 42), (5, qI v5)] [] (hp s (xo A D)) (LK K)
section SYN
variable {w : qE} {v5 : Int} {K : Nat}
/-- the end of a call that answers an int -/
theorem lend {s2 : qS} {A1 : Nat → Int64} {D1 : Nat → UInt64} {r1 r2 : Int} (hN : LA w 797 v5 K) (hS : Sy s2) (h7 : s2 25 7 = r1) (hr : Rg r1) (hA : r1 = 0 → A1 0 = (Int32.ofInt r2).toInt64) : qW (wx w (xo A1 D1)) 1 123 [.ref 25] s2 (qPI (fun r3 s3 => r3 = r1 ∧ Rg r1 ∧ (r1 = 0 → A1 0 = (Int32.ofInt r2).toInt64 ∧ yR w 20 qmL 797 [(0, .retAddr 1), (1, .ref 0), (2, .ref 25), (3, .ref 41), (4, .ref 42), (5, qI v5)] [] (hp s3 (xo A1 D1)) (LK K)) ∧ (r1 ≠ 0 → yR w 20 qmL 797 [(0, .retAddr 1), (1, .ref 0), (2, .ref 25), (3, .ref 41), (4, .ref 42), (5, qI v5)] [] (hp s3 (xo A1 D1)) (LK K))) (fun _ _ => False)) :=
  m123 ⟨h7, hr, fun y => ⟨hA y, hN _ _ _ hS⟩, fun _ => hN _ _ _ hS⟩
theorem updL_0 (A : Nat → Int64) (x : Int64) : vp_updL A 0 x 0 = x := by unfold vp_updL; rw [if_pos rfl]
theorem updD_0 (A : Nat → UInt64) (x : UInt64) : vf_upd A 0 x 0 = x := by unfold vf_upd; rw [if_pos rfl]
theorem sc_1 (hL : w.1 ≤ 2048) (h5 : 0 ≤ v5 ∧ v5 + 4 ≤ (w.1 : Int)) (hN : LA w 797 v5 K) : LA w 177 v5 (K + 1) := by
  intro s A D hS
  have hS0 := hS
  obtain ⟨⟨b0, b1, b2'⟩, a2, a3, a4, a5, a6, a7, a8⟩ := hS
  have ha := scr_rg w (v5 + 1)
  have hb := scr_rg w (v5 + 2)
  refine kL_177 hL h5 (c10 ha hb ⟨b0, b1⟩ (fun y => m126 ha hb (by rw [a2]; exact ⟨b0, b1⟩) (fun _ => ⟨rfl, hN _ _ _ (hS0.thr 0)⟩) (fun y1 y2 y3 y4 => absurd ⟨y1, by rw [← a2]; exact y2, y3, y4⟩ y)) (fun y1 y2 y3 y4 => ?_))
  obtain ⟨x, hx⟩ : ∃ x, scr w (v5 + 1) = x := ⟨_, rfl⟩
  obtain ⟨v, hv⟩ : ∃ v, scr w (v5 + 2) = v := ⟨_, rfl⟩
  rw [hx] at y1 y2
  rw [hv] at y3 y4
  rw [hx, hv]
  have e3 : qset s 2 x v 25 3 = s 25 3 := by rw [qset_cell _ (by decide)]
  refine m126 (hx ▸ ha) (hv ▸ hb) (by rw [e3, a2]; exact ⟨b0, b1⟩) (fun y => absurd ⟨y1, by rw [e3, a2]; exact y2, y3, y4⟩ y) (fun _ _ _ _ => ⟨rfl, hN _ _ _ ?_⟩)
  obtain ⟨B, n, r, a8, a9⟩ := a8
  refine ⟨⟨?_, ?_, fun i i0 i1 => ?_⟩, ?_, fun i i0 i1 => ?_, a4.fr ?_, ?_, ?_, ?_, B, n, r, a8, fun y => ?_⟩
  · simp only [qset_cell _ (show (1 : Nat) ≠ 27 by decide), qset_cell _ (show (1 : Nat) ≠ 25 by decide), qset_cell _ (show (1 : Nat) ≠ 2 by decide)]; exact b0
  · simp only [qset_cell _ (show (1 : Nat) ≠ 27 by decide), qset_cell _ (show (1 : Nat) ≠ 25 by decide), qset_cell _ (show (1 : Nat) ≠ 2 by decide)]; exact b1
  · simp only [qset_cell _ (show (1 : Nat) ≠ 27 by decide), qset_cell _ (show (1 : Nat) ≠ 25 by decide), qset_cell _ (show (1 : Nat) ≠ 2 by decide)] at i1
    simp only [qset_cell _ (show (2 : Nat) ≠ 27 by decide), qset_cell _ (show (2 : Nat) ≠ 25 by decide), qset_same]
    split
    · exact ⟨y3, y4⟩
    · exact b2' i i0 i1
  · rw [qset_cell _ (by decide), qset_same, if_neg (by decide), qset_cell _ (by decide), qset_cell _ (by decide), qset_cell _ (by decide), qset_cell _ (by decide)]; exact a2
  · simp only [qset_cell _ (show (1 : Nat) ≠ 27 by decide), qset_cell _ (show (1 : Nat) ≠ 25 by decide), qset_cell _ (show (1 : Nat) ≠ 2 by decide)] at i1
    simp only [qset_cell _ (show (2 : Nat) ≠ 27 by decide), qset_cell _ (show (2 : Nat) ≠ 25 by decide), qset_cell _ (show (27 : Nat) ≠ 25 by decide), qset_cell _ (show (27 : Nat) ≠ 2 by decide), qset_same]
    rw [a3 i i0 i1]
  · rw [qset_cell _ (by decide), qset_cell _ (by decide), qset_cell _ (by decide)]
  · rw [qset_cell _ (by decide), qset_cell _ (by decide), qset_cell _ (by decide), qset_cell _ (by decide), qset_same, if_neg (by decide), qset_cell _ (by decide)]; exact a5
  · rw [qset_cell _ (by decide), qset_same, if_neg (by decide), qset_cell _ (by decide), qset_cell _ (by decide), qset_cell _ (by decide), qset_cell _ (by decide)]; exact a6
  · rw [qset_cell _ (by decide), qset_cell _ (by decide), qset_cell _ (by decide)]; exact a7
  · rw [qset_cell _ (by decide), qset_cell _ (by decide), qset_cell _ (by decide)] at y
    obtain ⟨c1, c2, c3⟩ := a9 y
    refine ⟨c1, c2.fr (fun k k0 k1 => by rw [qset_cell _ (by omega), qset_cell _ (by omega), qset_cell _ (by omega)]), ?_⟩
    obtain ⟨m1, m2, ⟨m3, m4⟩, ⟨m5, m6⟩, m7⟩ := c3
    have e : ∀ k, 26 ≤ k → k ≠ 27 → qset (qset (qset s 2 x v) 25 7 0) 27 x v k = s k := fun k k0 k1 => by rw [qset_cell _ k1, qset_cell _ (by omega), qset_cell _ (by omega)]
    have e25 : ∀ j, j ≠ 7 → qset (qset (qset s 2 x v) 25 7 0) 27 x v 25 j = s 25 j := fun j hj => by rw [qset_cell _ (by decide), qset_same, if_neg hj, qset_cell _ (by decide)]
    exact ⟨m1.fr (e25 11 (by decide)) (e 26 (by decide) (by decide)) (e 28 (by decide) (by decide)) (e 29 (by decide) (by decide)), m2.fr (fun j j0 j1 => e25 j (by omega)), ⟨m3.fr (fun x x0 x1 j _ _ => by rw [e x (by omega) (by omega)]), by rw [e 35 (by decide) (by decide)]; exact m4⟩, ⟨m5.fr (fun x x0 x1 j _ _ => by rw [e x (by omega) (by omega)]), by rw [e 35 (by decide) (by decide)]; exact m6⟩, m7.fr (fun k k0 k1 => e k (by omega) (by omega))⟩
end SYN
