/-! the calls that ask -/
section SU
variable {w : qE} {v5 : Int} {K : Nat}
theorem Sy.m {s : qS} (h : Sy s) : s 25 9 = 0 ∨ s 25 9 = 1 := by
  rw [h.2.2.2.2.2.1]
  exact h.2.2.2.2.2.2.1
theorem Sy.c0 {s : qS} (h : Sy s) (y : s 25 9 = 0) : s 0 6 = 0 := by rw [← h.2.2.2.2.2.1]; exact y
theorem Sy.c1 {s : qS} (h : Sy s) (y : s 25 9 = 1) : s 0 6 = 1 := by rw [← h.2.2.2.2.2.1]; exact y
theorem Sy.sg {s s' : qS} {v : Int} (h : Sy s) (g : mSg (qset s 25 7 v) s') : Sy s' :=
  h.fr (by rw [g.1 0 (by decide), qset_cell _ (by decide)]) (by rw [g.1 1 (by decide), qset_cell _ (by decide)]) (by rw [g.1 1 (by decide), qset_cell _ (by decide)]) (fun k _ k1 => by rw [g.1 k (by omega), qset_cell _ (by omega)]) (fun k k0 _ => by rw [g.1 k (by omega), qset_cell _ (by omega)]) (fun j j7 a b => by rw [g.2 j a b, qset_same, if_neg j7])
theorem not01 {P : Prop} {x : Int} (h0 : x = 0) (h1 : x = 1) : P := absurd (h0.symm.trans h1) (by decide)
theorem sc_5 (hL : w.1 ≤ 2048) (h5 : 0 ≤ v5 ∧ v5 + 4 ≤ (w.1 : Int)) (hN : LA w 797 v5 K) : LA w 296 v5 (K + 1) := by
  intro s A D hS
  obtain ⟨B, n, r, a8, a9⟩ := hS.2.2.2.2.2.2.2
  have ha := scr_rg w (v5 + 1)
  have hb := scr_rg w (v5 + 2)
  exact kL_296 hL h5 (h196 (c94 (w := wx w (xo A D)) ha hb hS.2.2.2.2.2.2.1
    (fun y => ⟨rfl, m176 ha hb hS.m (fun _ => lend hN (hS.thr 1) (thr_7 _ _) d1 (fun z => absurd z (by decide))) (fun z => (a9 (hS.c1 z)).2.2) (fun z => not01 y (hS.c1 z))⟩)
    (fun y => (a9 y).2.1)
    (fun y => m176 ha hb hS.m (fun z => not01 (hS.c0 z) y) (fun z => (a9 (hS.c1 z)).2.2) (fun _ => lend hN (hS.thr 0) (thr_7 _ _) d0 (fun _ => updL_0 _ _)))))
theorem sc_7 (hL : w.1 ≤ 2048) (h5 : 0 ≤ v5 ∧ v5 + 4 ≤ (w.1 : Int)) (hN : LA w 797 v5 K) : LA w 441 v5 (K + 1) := by
  intro s A D hS
  obtain ⟨B, n, r, a8, a9⟩ := hS.2.2.2.2.2.2.2
  have ha := scr_rg w (v5 + 1)
  have hb := scr_rg w (v5 + 2)
  have hQ : s 25 9 = 1 → pSound (mkP B r.1) := fun z => (rRest_kn a8 (a9 (hS.c1 z)).1).1
  exact kL_441 hL h5 (h198 (c103 (w := wx w (xo A D)) ha hb hS.2.2.2.2.2.2.1
    (fun y => ⟨rfl, m181 ha hb hS.m (fun _ => lend hN (hS.thr 1) (thr_7 _ _) d1 (fun z => absurd z (by decide))) (fun z => (a9 (hS.c1 z)).2.2) hQ (fun z => not01 y (hS.c1 z))⟩)
    (fun y => (a9 y).2.1)
    (fun y => m181 ha hb hS.m (fun z => not01 (hS.c0 z) y) (fun z => (a9 (hS.c1 z)).2.2) hQ (fun _ => lend hN (hS.thr 0) (thr_7 _ _) d0 (fun _ => updL_0 _ _)))))
theorem sc_9 (hL : w.1 ≤ 2048) (h5 : 0 ≤ v5 ∧ v5 + 4 ≤ (w.1 : Int)) (hN : LA w 797 v5 K) : LA w 577 v5 (K + 1) := by
  intro s A D hS
  obtain ⟨B, n, r, a8, a9⟩ := hS.2.2.2.2.2.2.2
  have ha := scr_rg w (v5 + 1)
  exact kL_577 hL h5 (h200 (c117 (w := wx w (xo A D)) ha a8 (fun y => (a9 y).1) hS.2.2.2.2.2.2.1
    (fun y => ⟨rfl, m191 ha a8 (fun z => (a9 (hS.c1 z)).1) hS.m (fun _ => lend hN (hS.thr 1) (thr_7 _ _) d1 (fun z => absurd z (by decide))) (fun z => (a9 (hS.c1 z)).2.2) (fun z => not01 y (hS.c1 z))⟩)
    (fun y => (a9 y).2.1)
    (fun y => m191 ha a8 (fun z => (a9 (hS.c1 z)).1) hS.m (fun z => not01 (hS.c0 z) y) (fun z => (a9 (hS.c1 z)).2.2) (fun _ => lend hN (hS.thr 0) (thr_7 _ _) d0 (fun _ => updL_0 _ _)))))
theorem sc_11 (hL : w.1 ≤ 2048) (h5 : 0 ≤ v5 ∧ v5 + 4 ≤ (w.1 : Int)) (hN : LA w 797 v5 K) : LA w 729 v5 (K + 1) := by
  intro s A D hS
  obtain ⟨B, n, r, a8, a9⟩ := hS.2.2.2.2.2.2.2
  have ha := scr_rg w (v5 + 1)
  have hb := scr_rg w (v5 + 2)
  exact kL_729 hL h5 (h202 (c120 (w := wx w (xo A D)) ha hb a8 (fun y => (a9 y).1) hS.2.2.2.2.2.2.1
    (fun y => ⟨rfl, m194 hb ha a8 (fun z => (a9 (hS.c1 z)).1) hS.m (fun _ => lend hN (hS.thr 1) (thr_7 _ _) d1 (fun z => absurd z (by decide))) (fun z => (a9 (hS.c1 z)).2.2) (fun z => not01 y (hS.c1 z))⟩)
    (fun y => (a9 y).2.1)
    (fun y => m194 hb ha a8 (fun z => (a9 (hS.c1 z)).1) hS.m (fun z => not01 (hS.c0 z) y) (fun z => (a9 (hS.c1 z)).2.2) (fun _ => lend hN (hS.thr 0) (thr_7 _ _) d0 (fun _ => updL_0 _ _)))))
theorem sc_8 (hv : w.2.2.1 = .null ∨ w.2.2.1 = .retAddr 4) (hL : w.1 ≤ 2048) (h5 : 0 ≤ v5 ∧ v5 + 4 ≤ (w.1 : Int)) (hN : LA w 797 v5 K) : LA w 509 v5 (K + 1) := by
  intro s A D hS
  obtain ⟨B, n, r, a8, a9⟩ := hS.2.2.2.2.2.2.2
  have ha := scr_rg w (v5 + 1)
  have hb := scr_rg w (v5 + 2)
  have hQ : s 25 9 = 1 → pSound (mkP B r.1) := fun z => (rRest_kn a8 (a9 (hS.c1 z)).1).1
  refine kL_509 hL h5 (h199 (c105 (w := wx w (xo A D)) hv ha hb hS.2.2.2.2.2.2.1 (fun y => (a9 y).1)
    (fun y => ⟨rfl, m182 ha hb hS.m (fun _ => lend hN (hS.thr 1) (thr_7 _ _) d1 (fun z => absurd z (by decide))) (fun z => (a9 (hS.c1 z)).2.2) hQ (fun z => not01 y (hS.c1 z))⟩)
    (fun y => (a9 y).2.1)
    (fun y s1 h1 => ?_)))
  have hS1 : Sy s1 := hS.fr (by rw [h1 0 (by decide)]) (by rw [h1 1 (by decide)]) (by rw [h1 1 (by decide)]) (fun k _ k1 => h1 k (by omega)) (fun k k0 _ => h1 k (by omega)) (fun j _ _ _ => by rw [h1 25 (by decide)])
  have e9 : s1 25 9 = s 25 9 := by rw [h1 25 (by decide)]
  have hF : s1 25 9 = 1 → mFin B n r s1 := fun z => (a9 y).2.2.fr (fun k k0 k1 => h1 k (by omega)) (fun j _ _ => by rw [h1 25 (by decide)])
  have y9 : s1 25 9 = 1 := by rw [e9, hS.2.2.2.2.2.1]; exact y
  refine m182 ha hb hS1.m (fun z => not01 z y9) hF (fun z => hQ (by rw [← e9]; exact z)) (fun _ s2 g1 g2 g3 => ?_)
  refine lend hN (hS1.fr ?_ ?_ ?_ (fun k k0 k1 => g1 k (by omega) (by omega)) (fun k k0 k1 => g1 k (by omega) (by omega)) g2) g3 d0 (fun _ => updL_0 _ _)
  · rw [g1 0 (by decide) (by decide)]
  · rw [g1 1 (by decide) (by decide)]
  · rw [g1 1 (by decide) (by decide)]
theorem lendD {s2 : qS} {A1 : Nat → Int64} {D1 : Nat → UInt64} {r1 : Int} {r2 : UInt64} (hN : LA w 797 v5 K) (hS : Sy s2) (h7 : s2 25 7 = r1) (hr : Rg r1) (hA : r1 = 0 → D1 0 = r2) : qW (wx w (xo A1 D1)) 1 123 [.ref 25] s2 (qPI (fun r3 s3 => r3 = r1 ∧ Rg r1 ∧ (r1 = 0 → D1 0 = r2 ∧ yR w 20 qmL 797 [(0, .retAddr 1), (1, .ref 0), (2, .ref 25), (3, .ref 41), (4, .ref 42), (5, qI v5)] [] (hp s3 (xo A1 D1)) (LK K)) ∧ (r1 ≠ 0 → yR w 20 qmL 797 [(0, .retAddr 1), (1, .ref 0), (2, .ref 25), (3, .ref 41), (4, .ref 42), (5, qI v5)] [] (hp s3 (xo A1 D1)) (LK K))) (fun _ _ => False)) :=
  m123 ⟨h7, hr, fun y => ⟨hA y, hN _ _ _ hS⟩, fun _ => hN _ _ _ hS⟩
theorem sc_6 (hL : w.1 ≤ 2048) (h5 : 0 ≤ v5 ∧ v5 + 4 ≤ (w.1 : Int)) (hN : LA w 797 v5 K) : LA w 364 v5 (K + 1) := by
  intro s A D hS
  obtain ⟨B, n, r, a8, a9⟩ := hS.2.2.2.2.2.2.2
  have ha := scr_rg w (v5 + 1)
  have hF : s 25 9 = 1 → mFin B n r s := fun z => (a9 (hS.c1 z)).2.2
  exact kL_364 hL h5 (h197 (c97 (w := wx w (xo A D)) ha hS.2.2.2.2.2.2.1
    (fun y => Or.inl ⟨rfl, m179 ha hS.m (fun _ _ => lendD hN (hS.thr 1) (thr_7 _ _) d1 (fun z => absurd z (by decide))) hF (fun z => not01 y (hS.c1 z)) (fun z => not01 y (hS.c1 z))⟩)
    (fun y => (a9 y).2.1)
    (fun y x hx => m179 ha hS.m (fun z => not01 (hS.c0 z) y) hF (fun _ x' hx' => lendD hN (hS.thr 0) (thr_7 _ _) d0 (fun _ => by rw [updD_0]; exact Option.some.inj (hx.symm.trans hx'))) (fun _ hx' => absurd (hx.symm.trans hx') (by simp)))
    (fun y hx => Or.inr ⟨rfl, m179 ha hS.m (fun z => not01 (hS.c0 z) y) hF (fun _ x' hx' => absurd (hx.symm.trans hx') (by simp)) (fun _ _ _ => lendD hN ((hS.thr 0).thr 2) (thr_7 _ _) ⟨by decide, by decide⟩ (fun z => absurd z (by decide)))⟩)))
theorem sc_10a {me : Bool} (hme : scr w (v5 + 1) = 0 ↔ me = false) (hL : w.1 ≤ 2048) (h5 : 0 ≤ v5 ∧ v5 + 4 ≤ (w.1 : Int)) (hN : LA w 797 v5 K) {s : qS} {A : Nat → Int64} {D : Nat → UInt64} (hS : Sy s) : yR w 20 qmL 648 [(0, .retAddr 1), (1, .ref 0), (2, .ref 25), (3, .ref 41), (4, .ref 42), (5, qI v5)] [qI (bi me), .ref 0] (hp s (xo A D)) (LK (K + 1)) := by
  obtain ⟨B, n, r, a8, a9⟩ := hS.2.2.2.2.2.2.2
  have ha := scr_rg w (v5 + 2)
  have hb := scr_rg w (v5 + 3)
  have hF : s 25 9 = 1 → mFin B n r s := fun z => (a9 (hS.c1 z)).2.2
  have hR : s 25 9 = 1 → rRest B n = .inr r := fun z => (a9 (hS.c1 z)).1
  have via : ∀ {r1 : Int} {A1 : Nat → Int64} {D1 : Nat → UInt64}, yR w 20 qmL 681 [(0, .retAddr 1), (1, .ref 0), (2, .ref 25), (3, .ref 41), (4, .ref 42), (5, qI v5), (6, qI r1)] [qI (bi me), .ref 25] (hp s (xo A1 D1)) (LK K) → (Rg (scr w (v5 + 1)) ∧ (scr w (v5 + 1) = 0 → yR w 20 qmL 681 [(0, .retAddr 1), (1, .ref 0), (2, .ref 25), (3, .ref 41), (4, .ref 42), (5, qI v5), (6, qI r1)] [qI 0, .ref 25] (hp s (xo A1 D1)) (LK K)) ∧ (scr w (v5 + 1) ≠ 0 → yR w 20 qmL 681 [(0, .retAddr 1), (1, .ref 0), (2, .ref 25), (3, .ref 41), (4, .ref 42), (5, qI v5), (6, qI r1)] [qI 1, .ref 25] (hp s (xo A1 D1)) (LK K))) := by
    intro r1 A1 D1 h
    refine ⟨scr_rg w _, fun y => ?_, fun y => ?_⟩
    · rw [hme.mp y] at h; exact h
    · have : me = true := by
        cases me with
        | true => rfl
        | false => exact absurd (hme.mpr rfl) y
      rw [this] at h; exact h
  exact kL_648 hL h5 (h201 (c119 (w := wx w (xo A D)) (bi_rg me) ha hb hS.2.2.2.2.2.2.1
    (fun y => ⟨rfl, via (kL_681 hL h5 (m192 ha hb a8 hR hS.m (fun _ => lend hN (hS.thr 1) (thr_7 _ _) d1 (fun z => absurd z (by decide))) hF (fun z => not01 y (hS.c1 z))))⟩)
    (fun y => (a9 y).2.1) a8 (fun y => (a9 y).1)
    (fun y => via (kL_681 hL h5 (m192 ha hb a8 hR hS.m (fun z => not01 (hS.c0 z) y) hF (fun _ s' g => lend hN (hS.sg g) (by rw [g.2 7 (by decide) (by decide)]; exact thr_7 _ _) d0 (fun _ => updL_0 _ _)))))))
theorem sc_10 (hL : w.1 ≤ 2048) (h5 : 0 ≤ v5 ∧ v5 + 4 ≤ (w.1 : Int)) (hN : LA w 797 v5 K) : LA w 633 v5 (K + 1) := by
  intro s A D hS
  refine kL_633 hL h5 ⟨scr_rg w _, fun y => ?_, fun y => ?_⟩
  · exact sc_10a (me := false) ⟨fun _ => rfl, fun _ => y⟩ hL h5 hN hS
  · exact sc_10a (me := true) ⟨fun z => absurd z y, fun z => absurd z (by decide)⟩ hL h5 hN hS
/-- the loop: with K calls left at most -/
theorem law_loop (hv : w.2.2.1 = .null ∨ w.2.2.1 = .retAddr 4) (hL : w.1 ≤ 2048) : ∀ (K : Nat) (v5 : Int), 0 ≤ v5 → v5 ≤ 4000 → (w.1 : Int) < v5 + 4 * (K : Int) + 4 → LA w 28 v5 K := by
  intro K
  induction K with
  | zero =>
    intro v5 h0 h1 h2 s A D hS
    exact kL_28 hL ⟨h0, h1⟩ (fun y => absurd y (by omega))
  | succ K ih =>
    intro v5 h0 h1 h2 s A D hS
    refine kL_28 hL ⟨h0, h1⟩ (fun y => ?_)
    have h5 : 0 ≤ v5 ∧ v5 + 4 ≤ (w.1 : Int) := ⟨h0, by omega⟩
    have hN : LA w 797 v5 K := fun s A D hS => kL_797 hL h5 (ih (v5 + 4) (by omega) (by omega) (by omega) s A D hS)
    exact ⟨fun _ => sc_0 hL h5 hN s A D hS, fun _ => sc_1 hL h5 hN s A D hS, fun _ => sc_2 hL h5 hN s A D hS, fun _ => sc_3 hv hL h5 hN s A D hS, fun _ => sc_4 hL h5 hN s A D hS, fun _ => sc_5 hL h5 hN s A D hS, fun _ => sc_6 hL h5 hN s A D hS, fun _ => sc_7 hL h5 hN s A D hS, fun _ => sc_8 hv hL h5 hN s A D hS, fun _ => sc_9 hL h5 hN s A D hS, fun _ => sc_10 hL h5 hN s A D hS, fun _ => sc_11 hL h5 hN s A D hS, fun _ => (hN s A D hS).up⟩
end SU
