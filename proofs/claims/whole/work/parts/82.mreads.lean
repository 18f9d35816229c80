/-! THE MODEL's read; what else is needed of what has been read -/
/-- what a call of the model leaves alone -/
def mKp (s s' : qS) : Prop := (∀ k, k < 25 → s' k = s k) ∧ s' 26 = s 26 ∧ s' 27 = s 27 ∧ s' 25 3 = s 25 3
theorem mFin.fr {s s' : qS} {B : Int → Int} {n : Int} {r : qRes2} (h : mFin B n r s) (h1 : ∀ k, 26 ≤ k → k ≤ 39 → s' k = s k) (h2 : ∀ j, 11 ≤ j → j ≤ 16 → s' 25 j = s 25 j) : mFin B n r s' := by
  obtain ⟨a1, a2, ⟨a3, a4⟩, ⟨a5, a6⟩, a7⟩ := h
  refine ⟨a1.fr (h2 11 (by decide) (by decide)) (h1 26 (by decide) (by decide)) (h1 28 (by decide) (by decide)) (h1 29 (by decide) (by decide)), a2.fr (fun j a b => h2 j (by omega) b), ⟨a3.fr (fun x a b j _ _ => by rw [h1 x (by omega) (by omega)]), ?_⟩, ⟨a5.fr (fun x a b j _ _ => by rw [h1 x (by omega) (by omega)]), ?_⟩, a7.fr (fun k a b => h1 k (by omega) (by omega))⟩
  · rw [h1 35 (by decide) (by decide)]; exact a4
  · rw [h1 35 (by decide) (by decide)]; exact a6
section MY
variable {w : qE} {s s0 s1 : qS} {B P att : Int → Int} {n c i p e m pl dc q : Int} {r : qRes2} {f : Int → qS → Prop} {fv : qS → Prop} {g : Nat → qS → Prop}
theorem m128_95 {u : qS} (hF : mFt u e s) (h8 : s 25 8 = 0 ∨ s 25 8 = 1) (H : ∀ s', (∀ k, k ≠ 25 → s' k = s k) → (∀ j, j ≠ 7 → j ≠ 9 → s' 25 j = s 25 j) → s' 25 9 = 0 → s' 25 7 = (if s 25 8 = 0 then 1 else 2) → f 0 s') : qR w 11 qm128 95 [(0, .ref 25)] [qI 0, .ref 25] s (qPI f g) := by
  have h122 : ∀ x : Int, x = (if s 25 8 = 0 then 1 else 2) → qR w 11 qm128 122 [(0, .ref 25)] [qI x, .ref 25] (qset s 25 9 0) (qPI f g) := fun x hx => by
    have e9 : qset s 25 9 0 25 9 = 0 := by rw [qset_same, if_pos rfl]
    refine k128_122 ?_
    rw [e9]
    refine ⟨d0, fun _ => k128_142 (H _ (fun k hk => by rw [qset_cell _ hk, qset_cell _ hk]) (fun j j1 j2 => by rw [qset_same, if_neg j1, qset_same, if_neg j2]) ?_ ?_), fun y => absurd rfl y⟩
    · rw [qset_same, if_neg (by decide)]; exact e9
    · rw [qset_same, if_pos rfl]; exact hx
  refine k128_95 ⟨Or.inl rfl, d0, fun _ => ⟨by rcases h8 with h | h <;> rw [h] <;> exact ⟨by decide, by decide⟩, fun y => h122 1 (by rw [if_pos y]), fun y => h122 2 (by rw [if_neg y])⟩, fun y => absurd rfl y⟩
theorem m128 (hB : qB B n) (h3 : s 25 3 = n) (hb : ∀ i, 0 ≤ i → i < n → s 27 i = B i) (hL : mL s)
    (H : qRes (rVer B n) (fun e => ∀ s', mKp s s' → s' 25 6 = e → s' 25 9 = 0 → s' 25 7 = 1 → f 0 s') (fun _ => if okVer (b2 B 4) (b2 B 6) = true then qRes (rRest B n) (fun e => ∀ s', mKp s s' → s' 25 6 = e → s' 25 9 = 0 → s' 25 7 = 1 → f 0 s') (fun r => ∀ s', mKp s s' → s' 25 6 = -2 → s' 25 9 = 1 → s' 25 7 = 0 → mFin B n r s' → f r.1 s') else ∀ s', mKp s s' → s' 25 6 = 4 → s' 25 9 = 0 → s' 25 7 = 2 → f 0 s')) : qW w 12 128 [.ref 25] s (qPI f g) := by
  have h5 := hB.2.1
  have h0 := hB.1
  -- behind the counts
  have h129 : ∀ u : qS, (∀ k, k ≠ 25 → k ≠ 28 → k ≠ 37 → u k = s k) → (∀ i, 0 ≤ i → i < n → u 28 i = B i) → (∀ j, 0 ≤ j → j < 9 → u 37 j = -1) → u 25 3 = n → u 25 4 = n → u 25 5 = 0 → u 25 6 = -2 → u 25 8 = 0 → u 25 11 = 1 → qW w 11 129 [.ref 25] u (qPV (fun s1 => Rg (s1 25 6) ∧ (s1 25 6 < 0 → qR w 11 qm128 95 [(0, .ref 25)] [qI 1, .ref 25] s1 (qPI f g)) ∧ (0 ≤ s1 25 6 → qR w 11 qm128 95 [(0, .ref 25)] [qI 0, .ref 25] s1 (qPI f g))) g) := by
    intro u a1 a2 a3 a4 a5 a6 a7 a8 a9
    have hS : mS u B n := ⟨hB, a5, a2, by unfold mL; rw [a1 26 (by decide) (by decide) (by decide)]; exact hL⟩
    have hA : mAt u 0 u := ⟨⟨fun _ _ => rfl, rfl, rfl, rfl, rfl, rfl, rfl, by rw [a9]; exact d1, by rw [a3 8 (by decide) (by decide)]; exact ⟨by decide, by decide⟩⟩, a6, a7⟩
    have kp : ∀ s1 s' : qS, mFr u s1 → (∀ k, k ≠ 25 → s' k = s1 k) → (∀ j, j ≠ 7 → j ≠ 9 → s' 25 j = s1 25 j) → mKp s s' := fun s1 s' hF b1 b2' => by
      obtain ⟨c1, c2, c3, c4, c5, -⟩ := hF
      refine ⟨fun k hk => ?_, ?_, ?_, ?_⟩
      · rw [b1 k (by omega), c1 k hk]; exact a1 k (by omega) (by omega) (by omega)
      · rw [b1 26 (by decide), c2]; exact a1 26 (by decide) (by decide) (by decide)
      · rw [b1 27 (by decide), c3]; exact a1 27 (by decide) (by decide) (by decide)
      · rw [b2' 3 (by decide) (by decide), c5, a4, h3]
    have bad : ∀ e, (∀ s', mKp s s' → s' 25 6 = e → s' 25 9 = 0 → s' 25 7 = 1 → f 0 s') → ∀ s', mFt u e s' → Rg (s' 25 6) ∧ (s' 25 6 < 0 → qR w 11 qm128 95 [(0, .ref 25)] [qI 1, .ref 25] s' (qPI f g)) ∧ (0 ≤ s' 25 6 → qR w 11 qm128 95 [(0, .ref 25)] [qI 0, .ref 25] s' (qPI f g)) := fun e hh s' hF => by
      have e6 := hF.2.2.1
      have e60 := hF.2.2.2.1
      have e8 : s' 25 8 = 0 := hF.1.2.2.2.2.2.2.1.trans a8
      refine ⟨by rw [e6]; exact hF.2.2.2.2, fun y => absurd y (by rw [e6]; omega), fun _ => m128_95 hF (Or.inl e8) (fun s'' b1 b2' b3 b4 => hh s'' (kp s' s'' hF.1 b1 b2') ?_ b3 ?_)⟩
      · rw [b2' 6 (by decide) (by decide)]; exact e6
      · rw [b4, if_pos e8]
    refine m129 hS hA a3 (qRes_mono H (fun e _ H => bad e H) (fun _ _ H => ?_))
    split at H
    · next ho =>
      rw [if_pos ho]
      refine qRes_mono H (fun e _ H => bad e H) (fun r hr H s' tA tF => ?_)
      have e6 := tA.2.2
      refine ⟨by rw [e6]; exact ⟨by decide, by decide⟩, fun _ => ?_, fun y => absurd y (by rw [e6]; decide)⟩
      have hr1 : r.1 = b2 B 8 := (rRest_fin hB hr).2.2.2.2.2.2.2.2.2.2.2.2.2.2.1
      have hn10 : 10 ≤ n := (rRest_fin hB hr).2.2.2.2.2.2.2.2.2.2.2.2.2.2.2
      have e9 : qset s' 25 9 1 25 9 = 1 := by rw [qset_same, if_pos rfl]
      refine k128_95 ⟨Or.inr rfl, d1, fun y => absurd y (by decide), fun _ => k128_122 ?_⟩
      rw [e9]
      refine ⟨d1, fun y => absurd y (by decide), fun _ => m142 hB (p := 8) (fun i i0 i1 => ?_) (by decide) (by omega) (k128_142 ?_)⟩
      · rw [qset_cell _ (by decide), qset_cell _ (by decide)]; exact tF.1.2.2.2.1 i i0 i1
      · rw [← hr1]
        refine H _ (kp s' _ tA.1 (fun k hk => by rw [qset_cell _ hk, qset_cell _ hk]) (fun j j1 j2 => by rw [qset_same, if_neg j1, qset_same, if_neg j2])) ?_ ?_ ?_ (tF.fr (fun k a b => by rw [qset_cell _ (by omega), qset_cell _ (by omega)]) (fun j a b => by rw [qset_same, if_neg (by omega), qset_same, if_neg (by omega)]))
        · rw [qset_same, if_neg (by decide), qset_same, if_neg (by decide)]; exact e6
        · rw [qset_same, if_neg (by decide)]; exact e9
        · rw [qset_same, if_pos rfl]
    · next ho =>
      rw [if_neg ho]
      intro s' hF
      have e6 := hF.2.2.1
      have e8 : s' 25 8 = 1 := by rw [hF.1.2.2.2.2.2.2.1, qset_same, if_pos rfl]
      have hF' : mFr u (qset s' 25 8 0) ∧ True := by
        obtain ⟨c1, c2, c3, c4, c5, c6, c7, c8, c9⟩ := hF.1
        refine ⟨⟨fun k hk => by rw [qset_cell _ (by omega), c1 k hk, qset_cell _ (by omega)], ?_, ?_, ?_, ?_, ?_, ?_, ?_, ?_⟩, trivial⟩
        · rw [qset_cell _ (by decide), c2, qset_cell _ (by decide)]
        · rw [qset_cell _ (by decide), c3, qset_cell _ (by decide)]
        · rw [qset_cell _ (by decide), c4, qset_cell _ (by decide)]
        · rw [qset_same, if_neg (by decide), c5, qset_same, if_neg (by decide)]
        · rw [qset_same, if_neg (by decide), c6, qset_same, if_neg (by decide)]
        · rw [qset_same, if_pos rfl, a8]
        · rw [qset_same, if_neg (by decide)]; exact c8
        · rw [qset_cell _ (by decide)]; exact c9
      refine ⟨by rw [e6]; exact ⟨by decide, by decide⟩, fun y => absurd y (by rw [e6]; decide), fun _ => m128_95 hF (Or.inr e8) (fun s'' b1 b2' b3 b4 => H s'' ?_ ?_ b3 ?_)⟩
      · obtain ⟨c1, c2, c3, c4, c5, -⟩ := hF'.1
        refine ⟨fun k hk => ?_, ?_, ?_, ?_⟩
        · have := c1 k hk
          rw [qset_cell _ (by omega)] at this
          rw [b1 k (by omega), this]; exact a1 k (by omega) (by omega) (by omega)
        · rw [qset_cell _ (by decide)] at c2
          rw [b1 26 (by decide), c2]; exact a1 26 (by decide) (by decide) (by decide)
        · rw [qset_cell _ (by decide)] at c3
          rw [b1 27 (by decide), c3]; exact a1 27 (by decide) (by decide) (by decide)
        · rw [qset_same, if_neg (by decide)] at c5
          rw [b2' 3 (by decide) (by decide), c5, a4, h3]
      · rw [b2' 6 (by decide) (by decide)]; exact e6
      · rw [b4, if_neg (by omega)]
  have h59 : ∀ (d : Nat) (u : qS), (d : Int) ≤ 9 → (∀ k, k ≠ 25 → k ≠ 28 → k ≠ 37 → u k = s k) → (∀ i, 0 ≤ i → i < n → u 28 i = B i) → (∀ j : Int, 0 ≤ j → j < 9 - (d : Int) → u 37 j = -1) → u 25 3 = n → u 25 4 = n → u 25 5 = 0 → u 25 6 = -2 → u 25 8 = 0 → u 25 11 = 1 → qR w 11 qm128 59 [(0, .ref 25), (1, qI (9 - d))] [] u (qPI f g) := by
    intro d
    induction d with
    | zero =>
      intro u hd a1 a2 a3 a4 a5 a6 a7 a8 a9
      exact k128_59 ⟨⟨by omega, by omega⟩, fun y => absurd y (by omega), fun _ => h129 u a1 a2 (fun j j0 j1 => a3 j j0 (by omega)) a4 a5 a6 a7 a8 a9⟩
    | succ d ih =>
      intro u hd a1 a2 a3 a4 a5 a6 a7 a8 a9
      refine k128_59 ⟨⟨by omega, by omega⟩, fun _ => ⟨by omega, by omega, ?_⟩, fun y => absurd y (by omega)⟩
      rw [show 9 - ((d + 1 : Nat) : Int) + 1 = 9 - (d : Int) by omega]
      refine ih _ (by omega) (fun k k1 k2 k3 => by rw [qset_cell _ k3]; exact a1 k k1 k2 k3) (fun i i0 i1 => by rw [qset_cell _ (by decide)]; exact a2 i i0 i1) (fun j j0 j1 => ?_) ?_ ?_ ?_ ?_ ?_ ?_
      · rw [qset_same]
        split
        · rfl
        · exact a3 j j0 (by omega)
      all_goals rw [qset_cell _ (by decide)]; assumption
  have h2 : ∀ (d : Nat) (u : qS), (d : Int) ≤ n → (∀ k, k ≠ 28 → u k = s k) → (∀ i, 0 ≤ i → i < n - d → u 28 i = B i) → qR w 11 qm128 2 [(0, .ref 25), (1, qI (n - d))] [] u (qPI f g) := by
    intro d
    induction d with
    | zero =>
      intro u hd a1 a2
      have e3 : u 25 3 = n := by rw [a1 25 (by decide)]; exact h3
      refine k128_2 ⟨⟨by omega, by omega⟩, by rw [e3]; exact ⟨by omega, by omega⟩, fun y => absurd y (by rw [e3]; omega), fun _ => ?_⟩
      have := h59 9 (qset (qset (qset (qset (qset u 25 4 (u 25 3)) 25 5 0) 25 6 (-2)) 25 8 0) 25 11 1) (by decide) (fun k k1 k2 _ => ?_) (fun i i0 i1 => ?_) (fun j j0 j1 => absurd j1 (by omega)) ?_ ?_ ?_ ?_ ?_ ?_
      · exact this
      · simp only [qset_cell _ k1]; exact a1 k k2
      · simp only [qset_cell _ (show (28 : Nat) ≠ 25 by decide)]; exact a2 i i0 (by omega)
      · simp only [qset_same]; exact e3
      · simp only [qset_same]; exact e3
      · simp only [qset_same]; rfl
      · simp only [qset_same]; rfl
      · simp only [qset_same]; rfl
      · simp only [qset_same]; rfl
    | succ d ih =>
      intro u hd a1 a2
      have e3 : u 25 3 = n := by rw [a1 25 (by decide)]; exact h3
      refine k128_2 ⟨⟨by omega, by omega⟩, by rw [e3]; exact ⟨by omega, by omega⟩, fun _ => ⟨by omega, by omega, by omega, by omega, ?_⟩, fun y => absurd y (by rw [e3]; omega)⟩
      rw [show n - ((d + 1 : Nat) : Int) + 1 = n - (d : Int) by omega]
      refine ih _ (by omega) (fun k hk => by rw [qset_cell _ hk]; exact a1 k hk) (fun i i0 i1 => ?_)
      rw [qset_same]
      split
      · next h => rw [h, a1 27 (by decide)]; exact hb _ (by omega) (by omega)
      · exact a2 i i0 (by omega)
  have := h2 n.toNat s (by omega) (fun _ _ => rfl) (fun i i0 i1 => absurd i1 (by omega))
  rw [show n - (n.toNat : Int) = 0 by omega] at this
  exact k128 this
end MY
