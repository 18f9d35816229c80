/-! the calls that change the file; read; where -/
theorem mFin.fr2 {s s' : qS} {B : Int → Int} {n : Int} {r : qRes2} (c3 : mFin B n r s) (e : ∀ k, 26 ≤ k → k ≤ 39 → k ≠ 27 → s' k = s k) (e25 : ∀ j, 11 ≤ j → j ≤ 16 → s' 25 j = s 25 j) : mFin B n r s' := by
  obtain ⟨m1, m2, ⟨m3, m4⟩, ⟨m5, m6⟩, m7⟩ := c3
  exact ⟨m1.fr (e25 11 (by decide) (by decide)) (e 26 (by decide) (by decide) (by decide)) (e 28 (by decide) (by decide) (by decide)) (e 29 (by decide) (by decide) (by decide)), m2.fr (fun j j0 j1 => e25 j (by omega) (by omega)), ⟨m3.fr (fun x x0 x1 j _ _ => by rw [e x (by omega) (by omega) (by omega)]), by rw [e 35 (by decide) (by decide) (by decide)]; exact m4⟩, ⟨m5.fr (fun x x0 x1 j _ _ => by rw [e x (by omega) (by omega) (by omega)]), by rw [e 35 (by decide) (by decide) (by decide)]; exact m6⟩, m7.fr (fun k k0 k1 => e k (by omega) (by omega) (by omega))⟩
theorem Sy.file {s s' : qS} (h : Sy s) (h0 : s' 0 6 = s 0 6) (h2 : s' 1 3 = s 1 3) (hk : ∀ k, 3 ≤ k → k ≤ 23 → s' k = s k) (hm : ∀ k, 26 ≤ k → k ≤ 39 → k ≠ 27 → s' k = s k) (h25 : ∀ j, j ≠ 3 → j ≠ 7 → s' 25 j = s 25 j) (n1 : qB (s' 2) (s' 1 1)) (n2 : s' 25 3 = s' 1 1) (n3 : ∀ i, 0 ≤ i → i < s' 1 1 → s' 27 i = s' 2 i) : Sy s' := by
  obtain ⟨-, -, -, a4, a5, a6, a7, B, n, r, a8, a9⟩ := h
  refine ⟨n1, n2, n3, a4.fr (hm 26 (by decide) (by decide) (by decide)), ?_, ?_, ?_, B, n, r, a8, fun y => ?_⟩
  · rw [h2, h25 6 (by decide) (by decide)]; exact a5
  · rw [h25 9 (by decide) (by decide), h0]; exact a6
  · rw [h0]; exact a7
  · rw [h0] at y
    obtain ⟨b1, b2', b3⟩ := a9 y
    exact ⟨b1, b2'.fr hk, b3.fr2 hm (fun j j0 j1 => h25 j (by omega) (by omega))⟩
section ST
variable {w : qE} {v5 : Int} {K : Nat}
theorem sc_0 (hL : w.1 ≤ 2048) (h5 : 0 ≤ v5 ∧ v5 + 4 ≤ (w.1 : Int)) (hN : LA w 797 v5 K) : LA w 108 v5 (K + 1) := by
  intro s A D hS
  have hS0 := hS
  obtain ⟨⟨b0, b1, b2'⟩, a2, a3, -⟩ := hS
  have hm := scr_rg w (v5 + 3)
  obtain ⟨m, hm2⟩ : ∃ m, scr w (v5 + 3) = m := ⟨_, rfl⟩
  obtain ⟨x, hx⟩ : ∃ x, (((Int32.ofInt (scr w (v5 + 1))).toInt64) <<< ((Int32.ofInt 32).toInt64 &&& 63)) ||| (((Int32.ofInt (scr w (v5 + 2))).toInt64) &&& ((4294967295 : Int64))) = x := ⟨_, rfl⟩
  refine kL_108 hL h5 ?_
  rw [hm2, hx]
  rw [hm2] at hm
  have h3 : 0 ≤ s 25 3 ∧ s 25 3 ≤ 500 := by rw [a2]; exact ⟨b0, b1⟩
  refine c8 hm ⟨b0, b1⟩ (fun y => m124 hm h3 (fun _ => ⟨rfl, hN _ _ _ (hS0.thr 0)⟩) (fun y1 y2 _ => absurd y (by omega)) (fun y1 y2 _ => absurd y (by omega))) (fun y1 y2 y3 => m124 hm h3 (fun y => absurd y (by omega)) (fun _ _ _ => ⟨rfl, hN _ _ _ (hS0.thr 0)⟩) (fun _ _ y => absurd y (by rw [a2]; omega))) (fun y1 y2 y3 s1 e1 e2 e3 e4 => ?_)
  have e25 : s1 25 = s 25 := e4 25 (by decide) (by decide)
  have e27 : s1 27 = s 27 := e4 27 (by decide) (by decide)
  refine m124 hm (by rw [e25]; exact h3) (fun y => absurd y (by omega)) (fun _ _ y => absurd y (by rw [e25, a2]; omega)) (fun _ _ _ s2 g1 g2 g3 g4 => ⟨by rw [e25, a2], hN _ _ _ ?_⟩)
  rw [e25] at g1 g2
  rw [e27] at g1
  have g2c : s2 2 = apF x m.toNat (s 2) (s 1 1) := (g4 2 (by decide) (by decide)).trans e1
  have g11 : s2 1 1 = s 1 1 + m := by rw [g4 1 (by decide) (by decide)]; exact e2
  refine hS0.file ?_ ?_ (fun k k0 k1 => ?_) (fun k k0 k1 k2 => ?_) (fun j j3 j7 => ?_) ⟨?_, ?_, fun i i0 i1 => ?_⟩ ?_ (fun i i0 i1 => ?_)
  · rw [g4 0 (by decide) (by decide), e4 0 (by decide) (by decide)]
  · rw [g4 1 (by decide) (by decide), e3 3 (by decide)]
  · rw [g4 k (by omega) (by omega), e4 k (by omega) (by omega)]
  · rw [g4 k (by omega) k2, e4 k (by omega) (by omega)]
  · rw [g3 j j3 j7, e25]
  · rw [g11]; omega
  · rw [g11]; omega
  · rw [g2c]
    rw [g11] at i1
    exact apF_rg x m.toNat (s 2) (s 1 1) b2' i i0 (by omega)
  · rw [g2, g11, a2]
  · rw [g1, g2c, a2]
    rw [g11] at i1
    exact apF_cong x m.toNat (s 27) (s 2) (s 1 1) a3 i i0 (by omega)
theorem sc_2 (hL : w.1 ≤ 2048) (h5 : 0 ≤ v5 ∧ v5 + 4 ≤ (w.1 : Int)) (hN : LA w 797 v5 K) : LA w 214 v5 (K + 1) := by
  intro s A D hS
  have hS0 := hS
  obtain ⟨⟨b0, b1, b2'⟩, a2, a3, -⟩ := hS
  have ha := scr_rg w (v5 + 1)
  refine kL_214 hL h5 ?_
  obtain ⟨x, hx⟩ : ∃ x, scr w (v5 + 1) = x := ⟨_, rfl⟩
  rw [hx] at ha ⊢
  refine c12 ha ⟨b0, b1⟩ (fun y => m127 ha (by rw [a2]; exact ⟨b0, b1⟩) (fun _ => ⟨rfl, hN _ _ _ (hS0.thr 0)⟩) (fun y1 y2 => absurd ⟨y1, by rw [← a2]; exact y2⟩ y)) (fun y1 y2 => ?_)
  have e3 : qset s 1 1 x 25 3 = s 25 3 := by rw [qset_cell _ (by decide)]
  refine m127 ha (by rw [e3, a2]; exact ⟨b0, b1⟩) (fun y => absurd ⟨y1, by rw [e3, a2]; exact y2⟩ y) (fun _ _ => ⟨by rw [e3, a2], hN _ _ _ ?_⟩)
  have g11 : qset (qset (qset s 1 1 x) 25 7 0) 25 3 x 1 1 = x := by rw [qset_cell _ (by decide), qset_cell _ (by decide), qset_same, if_pos rfl]
  have ek : ∀ k, k ≠ 1 → k ≠ 25 → qset (qset (qset s 1 1 x) 25 7 0) 25 3 x k = s k := fun k k1 k2 => by rw [qset_cell _ k2, qset_cell _ k2, qset_cell _ k1]
  refine hS0.file ?_ ?_ (fun k k0 k1 => ek k (by omega) (by omega)) (fun k k0 k1 k2 => ek k (by omega) (by omega)) (fun j j3 j7 => ?_) ⟨?_, ?_, fun i i0 i1 => ?_⟩ ?_ (fun i i0 i1 => ?_)
  · rw [ek 0 (by decide) (by decide)]
  · rw [qset_cell _ (by decide), qset_cell _ (by decide), qset_same, if_neg (by decide)]
  · rw [qset_same, if_neg j3, qset_same, if_neg j7, qset_cell _ (by decide)]
  · rw [g11]; exact y1
  · rw [g11]; omega
  · rw [g11] at i1
    rw [ek 2 (by decide) (by decide)]
    exact b2' i i0 (by omega)
  · rw [g11, qset_same, if_pos rfl]
  · rw [g11] at i1
    rw [ek 2 (by decide) (by decide), ek 27 (by decide) (by decide)]
    exact a3 i i0 (by omega)
theorem sc_4 (hL : w.1 ≤ 2048) (h5 : 0 ≤ v5 ∧ v5 + 4 ≤ (w.1 : Int)) (hN : LA w 797 v5 K) : LA w 283 v5 (K + 1) := by
  intro s A D hS
  exact kL_283 hL h5 (c14 (m175 ⟨hS.2.2.2.2.1, hN _ _ _ (hS.thr 0)⟩))
theorem sc_3 (hv : w.2.2.1 = .null ∨ w.2.2.1 = .retAddr 4) (hL : w.1 ≤ 2048) (h5 : 0 ≤ v5 ∧ v5 + 4 ≤ (w.1 : Int)) (hN : LA w 797 v5 K) : LA w 239 v5 (K + 1) := by
  intro s A D hS
  obtain ⟨hB, a2, a3, a4, a5, a6, a7, -⟩ := hS
  obtain ⟨s0, hs0⟩ : ∃ s0, s0 = qset (qset (qset s 0 6 0) 1 2 0) 1 3 (-2) := ⟨_, rfl⟩
  have f0 : s0 0 6 = 0 := by rw [hs0, qset_cell _ (by decide), qset_cell _ (by decide), qset_same, if_pos rfl]
  have f13 : s0 1 3 = -2 := by rw [hs0, qset_same, if_pos rfl]
  have fk : ∀ k, 2 ≤ k → s0 k = s k := fun k hk => by rw [hs0, qset_cell _ (by omega), qset_cell _ (by omega), qset_cell _ (by omega)]
  have hno : qB (fun _ => 0) 0 := ⟨by decide, by decide, fun i i0 i1 => absurd i1 (by omega)⟩
  -- behind a fault, in both
  have bad : ∀ (k e : Int) (s1 s2 : qS), qFt s0 (s 1 1) e s1 → mKp s1 s2 → s2 25 6 = e → s2 25 9 = 0 → s2 25 7 = k → Sy s2 := by
    intro k e s1 s2 t1 t2 t3 t4 t5
    obtain ⟨u1, u2, u3, u4, u5⟩ := t1
    obtain ⟨v1, v2, v3, v4⟩ := t2
    have c2 : s2 2 = s 2 := by rw [v1 2 (by decide), u4, fk 2 (by decide)]
    have c11 : s2 1 1 = s 1 1 := by rw [v1 1 (by decide), u1]
    refine ⟨by rw [c2, c11]; exact hB, ?_, fun i i0 i1 => ?_, ?_, ?_, ?_, ?_, fun _ => 0, 0, (0, 0, 0, (0, fun _ => 0, fun _ _ => 0), (0, fun _ => 0, fun _ _ => 0), (0, fun _ => 0)), hno, fun y => ?_⟩
    · rw [v4, u5 25 (by decide), fk 25 (by decide), c11]; exact a2
    · rw [v3, u5 27 (by decide), fk 27 (by decide), c2]
      rw [c11] at i1
      exact a3 i i0 i1
    · exact a4.fr (by rw [v2, u5 26 (by decide), fk 26 (by decide)])
    · rw [v1 1 (by decide), u2, t3]
    · rw [t4, v1 0 (by decide), u3, f0]
    · rw [v1 0 (by decide), u3, f0]; exact Or.inl rfl
    · rw [v1 0 (by decide), u3, f0] at y
      exact absurd y (by decide)
  -- the model's side of it
  have hside : ∀ s1 : qS, (s1 2 = s0 2) → s1 1 1 = s 1 1 → (∀ k, 25 ≤ k → s1 k = s0 k) → s1 25 3 = s 1 1 ∧ (∀ i, 0 ≤ i → i < s 1 1 → s1 27 i = s 2 i) ∧ mL s1 := by
    intro s1 t1 t2 t3
    refine ⟨?_, fun i i0 i1 => ?_, a4.fr ?_⟩
    · rw [t3 25 (by decide), fk 25 (by decide)]; exact a2
    · rw [t3 27 (by decide), fk 27 (by decide)]; exact a3 i i0 i1
    · rw [t3 26 (by decide), fk 26 (by decide)]
  refine kL_239 hL h5 (h195 (c16 (w := wx w (xo A D)) hv hB rfl (fun _ _ _ => rfl) hs0 ?_))
  -- by what the reading comes to
  cases hV : rVer (s 2) (s 1 1) with
  | inl e =>
    intro s1 t
    obtain ⟨g1, g2, g3⟩ := hside s1 t.2.2.2.1 t.1 t.2.2.2.2
    refine Or.inl ⟨rfl, m128 hB g1 g2 g3 ?_⟩
    rw [hV]
    exact fun s2 t2 t3 t4 t5 => lend hN (bad 1 e s1 s2 t t2 t3 t4 t5) t5 d1 (fun y => absurd y (by decide))
  | inr v =>
    show if okVer (b2 (s 2) 4) (b2 (s 2) 6) = true then _ else _
    by_cases hO : okVer (b2 (s 2) 4) (b2 (s 2) 6) = true
    · rw [if_pos hO]
      cases hR : rRest (s 2) (s 1 1) with
      | inl e =>
        intro s1 t
        obtain ⟨g1, g2, g3⟩ := hside s1 t.2.2.2.1 t.1 t.2.2.2.2
        refine Or.inl ⟨rfl, m128 hB g1 g2 g3 ?_⟩
        rw [hV]
        show if okVer (b2 (s 2) 4) (b2 (s 2) 6) = true then _ else _
        rw [if_pos hO, hR]
        exact fun s2 t2 t3 t4 t5 => lend hN (bad 1 e s1 s2 t t2 t3 t4 t5) t5 d1 (fun y => absurd y (by decide))
      | inr r =>
        intro s1 t
        have t' := t
        obtain ⟨u1, u2, u3, u4, u5, -⟩ := t
        obtain ⟨g1, g2, g3⟩ := hside s1 u4 u2 u5
        refine m128 hB g1 g2 g3 ?_
        rw [hV]
        show if okVer (b2 (s 2) 4) (b2 (s 2) 6) = true then _ else _
        rw [if_pos hO, hR]
        intro s2 t2 t3 t4 t5 t6
        obtain ⟨v1, v2, v3, v4⟩ := t2
        have c2 : s2 2 = s 2 := by rw [v1 2 (by decide), u4, fk 2 (by decide)]
        have c11 : s2 1 1 = s 1 1 := by rw [v1 1 (by decide), u2]
        refine lend hN ⟨by rw [c2, c11]; exact hB, ?_, fun i i0 i1 => ?_, ?_, ?_, ?_, ?_, s 2, s 1 1, r, hB, fun _ => ⟨hR, t'.rd.fr (fun k k0 k1 => v1 k (by omega)), t6⟩⟩ t5 d0 (fun _ => updL_0 _ _)
        · rw [v4, c11]; exact g1
        · rw [v3, c2]
          rw [c11] at i1
          exact g2 i i0 i1
        · exact g3.fr v2
        · rw [v1 1 (by decide), u3, f13, t3]
        · rw [t4, v1 0 (by decide), u1]
        · rw [v1 0 (by decide), u1]; exact Or.inr rfl
    · rw [if_neg hO]
      intro s1 t
      obtain ⟨g1, g2, g3⟩ := hside s1 t.2.2.2.1 t.1 t.2.2.2.2
      refine Or.inr ⟨rfl, m128 hB g1 g2 g3 ?_⟩
      rw [hV]
      show if okVer (b2 (s 2) 4) (b2 (s 2) 6) = true then _ else _
      rw [if_neg hO]
      exact fun s2 t2 t3 t4 t5 => lend hN (bad 2 4 s1 s2 t t2 t3 t4 t5) t5 ⟨by decide, by decide⟩ (fun y => absurd y (by decide))
end ST
