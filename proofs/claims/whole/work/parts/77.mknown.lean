/-! THE MODEL reads attributes -/
def mCt (B : Int → Int) (att : Int → Int) (kn : Int) : Int := if att kn < 0 then -1 else if kn = 5 ∨ kn = 6 then 1 else b2 B (att kn)
def mSt (att : Int → Int) (kn : Int) : Int := if kn = 5 ∨ kn = 6 then att kn else att kn + 2
def mAH (s : qS) (B : Int → Int) (att : Int → Int) : Prop := (∀ kn, 4 ≤ kn → kn ≤ 9 → s 37 (kn - 1) = mCt B att kn ∧ (0 ≤ att kn → s 36 (kn - 1) = mSt att kn)) ∧ (0 ≤ att 9 → ∀ k : Nat, (k : Int) < b2 B (att 9) → s 38 k = bpos B (att 9 + 2) k)
theorem mAH.upd {s s' : qS} {B : Int → Int} {att : Int → Int} {kn p N st : Int} (h : mAH s B att) (hk : 4 ≤ kn ∧ kn ≤ 9) (hp : 0 ≤ p) (h37 : ∀ j, s' 37 j = if j = kn - 1 then N else s 37 j) (h36 : ∀ j, s' 36 j = if j = kn - 1 then st else s 36 j) (hN : N = if kn = 5 ∨ kn = 6 then 1 else b2 B p) (hst : st = if kn = 5 ∨ kn = 6 then p else p + 2) (h38 : kn ≠ 9 → s' 38 = s 38) (h39 : kn = 9 → ∀ k : Nat, (k : Int) < b2 B p → s' 38 k = bpos B (p + 2) k) : mAH s' B (kSet att kn p) := by
  have e : ∀ k, kSet att kn p k = if k = kn then p else att k := fun k => kSet_at att p k (by omega)
  refine ⟨fun k k4 k9 => ?_, fun h9 => ?_⟩
  · unfold mCt mSt
    rw [e, h37, h36]
    by_cases hkk : k = kn
    · subst hkk
      rw [if_pos rfl, if_pos rfl, if_pos rfl, if_neg (by omega)]
      exact ⟨hN, fun _ => hst⟩
    · rw [if_neg hkk, if_neg (show ¬ k - 1 = kn - 1 by omega), if_neg (show ¬ k - 1 = kn - 1 by omega)]
      exact h.1 k k4 k9
  · rw [e] at h9 ⊢
    by_cases h9k : (9 : Int) = kn
    · rw [if_pos h9k]
      exact h39 h9k.symm
    · rw [if_neg h9k] at h9 ⊢
      intro k hk
      rw [h38 (fun z => h9k z.symm)]
      exact h.2 h9 k hk
def mAM (s : qS) (B : Int → Int) (m : Int) (att : Int → Int) : Prop := s 32 m = vVal B att ∧ s 33 m = vHan B att ∧ s 34 m = vThr B att
section MD
variable {w : qE} {s s0 s1 : qS} {B P att : Int → Int} {n c i k p e m : Int} {f : Int → qS → Prop} {fv : qS → Prop} {g : Nat → qS → Prop}
theorem m173 {kn dc len : Int} (hS : mS s0 B n) (hA : mAt s0 p s) (h0 : 8 ≤ p) (h1 : p ≤ n) (hP : mPo s B n c) (hk : 4 ≤ kn ∧ kn ≤ 9) (hH : mAH s B att)
    (H : qRes (rBody (mkP B c) B n kn dc p len) (fun e => ∀ s', mFt s0 e s' → fv s') (fun r => ∀ s', mAt s0 r s' → mFw s s' → mAH s' B (kSet att kn p) → fv s')) : qW w 6 173 [.ref 25, qI (kn - 1)] s (qPV fv g) := by
  have h5 := hS.1.2.1
  have rk : Rg (kn - 1) := ⟨by omega, by omega⟩
  -- behind the count
  have fin : ∀ (u s' : qS) (a N : Int), mSm s u → N = (if kn = 5 ∨ kn = 6 then 1 else b2 B p) → a = (if kn = 5 ∨ kn = 6 then p else p + 2) → (∀ k, k ≠ 25 → k ≠ 38 → s' k = qset (qset u 36 (kn - 1) a) 37 (kn - 1) N k) → (∀ j, j ≠ 5 → j ≠ 6 → s' 25 j = u 25 j) → (kn ≠ 9 → s' 38 = u 38) → (kn = 9 → ∀ k : Nat, (k : Int) < b2 B p → s' 38 k = bpos B (p + 2) k) → mFw s s' ∧ mAH s' B (kSet att kn p) := by
    intro u s' a N hu hN ha h1 h2 h38 h39
    refine ⟨⟨fun k a1 a2 a3 a4 => ?_, fun j j1 j2 => (h2 j j1 j2).trans (hu.2 j j1 j2)⟩, hH.upd hk (by omega) (N := N) (st := a) (fun j => ?_) (fun j => ?_) hN ha (fun z => (h38 z).trans (hu.1 38 (by decide))) h39⟩
    · rw [h1 k a1 a4, qset_cell _ a3, qset_cell _ a2]; exact hu.1 k a1
    · rw [h1 37 (by decide) (by decide), qset_same, qset_cell _ (by decide), hu.1 37 (by decide)]
    · rw [h1 36 (by decide) (by decide), qset_cell _ (by decide), qset_same, hu.1 36 (by decide)]
  have hA' : ∀ (u : qS) (q a N : Int), mAt s0 q u → Rg N → mAt s0 q (qset (qset u 36 (kn - 1) a) 37 (kn - 1) N) := fun u q a N hu hN => (hu.set (by omega) (fun y => absurd y (by omega)) (fun y => absurd y (by omega))).set (by omega) (fun y => absurd y (by omega)) (fun _ => hN)
  have hP' : ∀ (u : qS) (a N : Int), mSm s u → mPo (qset (qset u 36 (kn - 1) a) 37 (kn - 1) N) B n c := fun u a N hu => mSet_po (mSet_po (hu.po hP) _ (by decide) (fun y => absurd y (by decide))) _ (by decide) (fun y => absurd y (by decide))
  -- the lists
  have lst : ∀ (K : Int → Nat → Int → Int ⊕ Int), kn ≠ 5 → kn ≠ 6 → rBody (mkP B c) B n kn dc p len = bd (rU2 B n p) (fun m => K m m.toNat (p + 2)) → (∀ N, N = b2 B p → 0 ≤ N → N ≤ 65535 → p + 2 ≤ n → qRes (K N N.toNat (p + 2)) (fun e => ∀ s', mFt s0 e s' → fv s') (fun r => ∀ s', mAt s0 r s' → mFw s s' → mAH s' B (kSet att kn p) → fv s') → qR w 5 qm173 38 [(0, .ref 25), (1, qI (kn - 1)), (2, qI N), (3, qI 0)] [] (qset (qset (qset s 25 5 (p + 2)) 36 (kn - 1) (p + 2)) 37 (kn - 1) N) (qPV fv g)) → qW w 6 173 [.ref 25, qI (kn - 1)] s (qPV fv g) := by
    intro K n5 n6 hb hl
    rw [hb, qRes_bd] at H
    refine k173 ⟨rk, fun y => absurd y (by omega), fun _ => ⟨fun y => absurd y (by omega), fun _ => m131' hS hA (by omega) h1 (qRes_mono H (fun e he H v s' v0 v1 hF => ?_) (fun v hv H => ?_))⟩⟩
    · have hF2 : mFt s0 e (qset (qset s' 36 (kn - 1) (s' 25 5)) 37 (kn - 1) v) := (hF.set (by omega) (fun y => absurd y (by omega)) (fun y => absurd y (by omega))).set (by omega) (fun y => absurd y (by omega)) (fun _ => ⟨by omega, by omega⟩)
      exact k173_18 ⟨by omega, by omega, by omega, by omega, m173_38_d hF2 ⟨by omega, by omega⟩ d0 (H _ hF2)⟩
    · obtain ⟨q1, rfl⟩ := rU2_r hv
      have r := b2_rg hS.1 (p := p) (by omega) q1
      exact k173_18 ⟨by omega, by omega, by omega, by omega, hl _ rfl r.1 r.2 q1 H⟩
  by_cases k5 : kn = 5
  · have hb : rBody (mkP B c) B n kn dc p len = bd (rTake (mkP B c) B n p 7) (fun _ => bd (rTake0 (mkP B c) B n (p + 2) 12) (fun _ => .inr (p + 4))) := by
      unfold rBody
      rw [if_neg (by omega), if_neg (by omega), if_neg (by omega), if_neg (by omega), if_pos k5]
    rw [hb, qRes_bd] at H
    have hA1 := hA' s p p 1 hA d1
    have hP1 := hP' s p 1 (mSm.rfl' s)
    refine k173 ⟨rk, fun _ => k173_10 (k173_18 ⟨by omega, by omega, by omega, by omega, ?_⟩), fun y => absurd (by omega) y⟩
    rw [hA.2.1]
    obtain ⟨u, hu⟩ : ∃ u, qset (qset s 36 (kn - 1) p) 37 (kn - 1) 1 = u := ⟨_, rfl⟩
    rw [hu] at hA1 hP1 ⊢
    refine k173_38 ⟨d0, d1, fun _ => m134 hA1 ⟨d1, fun y => absurd y (by decide), fun _ => ⟨rk, fun y => absurd y (by omega), fun _ => m171_0' hS hA1 (by omega) h1 hP1 (by decide) (qRes_mono H (fun e he H s' hF => ⟨fun _ => m171_d hS hF (m173_83_d hS hF rk d1 d1 (H s' hF)), fun y => absurd (by omega) y⟩) (fun v hv H => ⟨fun _ => ?_, fun y => absurd (by omega) y⟩))⟩⟩, fun y => absurd y (by decide)⟩
    obtain ⟨q1, -⟩ := rTake_v hv
    have hA2 := hA1.mv (p + 2)
    have hM2 : mSm u (qset u 25 5 (p + 2)) := (mSm.rfl' u).mv _
    rw [qRes_bd] at H
    refine m171_1' hS hA2 (by omega) q1 (hM2.po hP1) (by decide) (qRes_mono H (fun e he H s' hF => m173_83_d hS hF rk d1 d1 (H s' hF)) (fun v hv2 H => ?_))
    have hA3 := hA2.mv (p + 2 + 2)
    have hM3 := hM2.mv (p + 2 + 2)
    have H : ∀ s', mAt s0 (p + 4) s' → mFw s s' → mAH s' B (kSet att kn p) → fv s' := H
    rw [← show p + 2 + 2 = p + 4 by omega] at H
    obtain ⟨r1, r2⟩ := fin s _ p 1 (mSm.rfl' s) (by rw [if_pos (Or.inl k5)]) (by rw [if_pos (Or.inl k5)]) (fun k k1 _ => (hM3.1 k k1).trans (by rw [hu])) (fun j j1 j2 => (hM3.2 j j1 j2).trans (by rw [← hu, qset_cell _ (by decide), qset_cell _ (by decide)])) (fun _ => (hM3.1 38 (by decide)).trans (by rw [← hu, qset_cell _ (by decide), qset_cell _ (by decide)])) (fun z => absurd z (by omega))
    exact k173_83 ⟨rk, fun y => absurd y (by omega), fun _ => k173_109 (k173_38 ⟨d1, d1, fun y => absurd y (by decide), fun _ => k173_115 (H _ hA3 r1 r2)⟩)⟩
  by_cases k6 : kn = 6
  · have hb : rBody (mkP B c) B n kn dc p len = bd (rTake (mkP B c) B n p 7) (fun _ => .inr (p + 2)) := by
      unfold rBody
      rw [if_neg (by omega), if_neg (by omega), if_neg (by omega), if_neg (by omega), if_neg (by omega), if_pos k6]
    rw [hb, qRes_bd] at H
    have hA1 := hA' s p p 1 hA d1
    have hP1 := hP' s p 1 (mSm.rfl' s)
    refine k173 ⟨rk, fun y => absurd y (by omega), fun _ => ⟨fun _ => k173_10 (k173_18 ⟨by omega, by omega, by omega, by omega, ?_⟩), fun y => absurd (by omega) y⟩⟩
    rw [hA.2.1]
    obtain ⟨u, hu⟩ : ∃ u, qset (qset s 36 (kn - 1) p) 37 (kn - 1) 1 = u := ⟨_, rfl⟩
    rw [hu] at hA1 hP1 ⊢
    refine k173_38 ⟨d0, d1, fun _ => m134 hA1 ⟨d1, fun y => absurd y (by decide), fun _ => ⟨rk, fun y => absurd y (by omega), fun _ => m171_0' hS hA1 (by omega) h1 hP1 (by decide) (qRes_mono H (fun e he H s' hF => ⟨fun y => absurd y (by omega), fun _ => m173_83_d hS hF rk d1 d1 (H s' hF)⟩) (fun v hv H => ⟨fun y => absurd y (by omega), fun _ => ?_⟩))⟩⟩, fun y => absurd y (by decide)⟩
    have hA3 := hA1.mv (p + 2)
    have hM3 : mSm u (qset u 25 5 (p + 2)) := (mSm.rfl' u).mv _
    have H : ∀ s', mAt s0 (p + 2) s' → mFw s s' → mAH s' B (kSet att kn p) → fv s' := H
    obtain ⟨r1, r2⟩ := fin s _ p 1 (mSm.rfl' s) (by rw [if_pos (Or.inr k6)]) (by rw [if_pos (Or.inr k6)]) (fun k k1 _ => (hM3.1 k k1).trans (by rw [hu])) (fun j j1 j2 => (hM3.2 j j1 j2).trans (by rw [← hu, qset_cell _ (by decide), qset_cell _ (by decide)])) (fun _ => (hM3.1 38 (by decide)).trans (by rw [← hu, qset_cell _ (by decide), qset_cell _ (by decide)])) (fun z => absurd z (by omega))
    exact k173_83 ⟨rk, fun y => absurd y (by omega), fun _ => k173_109 (k173_38 ⟨d1, d1, fun y => absurd y (by decide), fun _ => k173_115 (H _ hA3 r1 r2)⟩)⟩
  have hM2 : mSm s (qset s 25 5 (p + 2)) := (mSm.rfl' s).mv _
  have hA2 := hA.mv (p + 2)
  by_cases k4 : kn = 4
  · refine lst (fun _ => rIns (mkP B c) B n) k5 k6 (by unfold rBody rInner; rw [if_neg (by omega), if_neg (by omega), if_neg (by omega), if_pos k4]) (fun N hN N0 N1 q1 H => ?_)
    have hA3 := hA' _ _ (p + 2) N hA2 ⟨by omega, by omega⟩
    have := m173_inn (w := w) (g := g) (fv := fv) hS (N := N) ⟨N0, N1⟩ N.toNat (p + 2) _ (by omega) hA3 (by omega) q1 (hP' _ _ _ hM2) (qRes_mono H (fun _ _ h => h) (fun r _ H s' a b => by
      obtain ⟨r1, r2⟩ := fin _ s' (p + 2) N hM2 (by rw [if_neg (by omega)]; exact hN) (by rw [if_neg (by omega)]) (fun k k1 _ => b.1 k k1) (fun j j1 j2 => (b.2 j j1 j2).trans (by rw [qset_cell _ (by decide), qset_cell _ (by decide)])) (fun _ => (b.1 38 (by decide)).trans (by rw [qset_cell _ (by decide), qset_cell _ (by decide)])) (fun z => absurd z (by omega))
      exact H s' a r1 r2))
    rw [show N - (N.toNat : Int) = 0 by omega] at this
    rw [show kn - 1 = 3 by omega] at this ⊢
    exact this
  by_cases k9 : kn = 9
  · refine lst (fun _ => rBts (mkP B c) B n) k5 k6 (by unfold rBody rBoots; rw [if_neg (by omega), if_neg (by omega), if_neg (by omega), if_neg (by omega), if_neg (by omega), if_neg (by omega), if_neg (by omega), if_neg (by omega), if_pos k9]) (fun N hN N0 N1 q1 H => ?_)
    have hA3 := hA' _ _ (p + 2) N hA2 ⟨by omega, by omega⟩
    have := m173_boo (w := w) (g := g) (fv := fv) hS (N := N) (a := p + 2) ⟨N0, N1⟩ (by omega) N.toNat (p + 2) _ (by omega) hA3 (by omega) q1 (by rw [show (N - (N.toNat : Int)).toNat = 0 by omega]; rfl) (hP' _ _ _ hM2) (fun k hk => absurd hk (by omega)) (qRes_mono H (fun _ _ h => h) (fun r _ H s' a b1 b2' b3 => by
      obtain ⟨r1, r2⟩ := fin _ s' (p + 2) N hM2 (by rw [if_neg (by omega)]; exact hN) (by rw [if_neg (by omega)]) b1 (fun j j1 j2 => (b2' j j1 j2).trans (by rw [qset_cell _ (by decide), qset_cell _ (by decide)])) (fun z => absurd k9 z) (fun _ => by rw [← hN]; exact b3)
      exact H s' a r1 r2))
    rw [show N - (N.toNat : Int) = 0 by omega] at this
    rw [show kn - 1 = 8 by omega] at this ⊢
    exact this
  · refine lst (fun _ => rTks (mkP B c) B n) k5 k6 (by
      unfold rBody rCls
      rcases (show kn = 7 ∨ kn = 8 by omega) with h | h
      · rw [if_neg (by omega), if_neg (by omega), if_neg (by omega), if_neg (by omega), if_neg (by omega), if_neg (by omega), if_pos h]
      · rw [if_neg (by omega), if_neg (by omega), if_neg (by omega), if_neg (by omega), if_neg (by omega), if_neg (by omega), if_neg (by omega), if_pos h]) (fun N hN N0 N1 q1 H => ?_)
    have hA3 := hA' _ _ (p + 2) N hA2 ⟨by omega, by omega⟩
    have := m173_cls (w := w) (g := g) (fv := fv) hS (N := N) (x := kn - 1) ⟨N0, N1⟩ (by omega) N.toNat (p + 2) _ (by omega) hA3 (by omega) q1 (hP' _ _ _ hM2) (qRes_mono H (fun _ _ h => h) (fun r _ H s' a b => by
      obtain ⟨r1, r2⟩ := fin _ s' (p + 2) N hM2 (by rw [if_neg (by omega)]; exact hN) (by rw [if_neg (by omega)]) (fun k k1 _ => b.1 k k1) (fun j j1 j2 => (b.2 j j1 j2).trans (by rw [qset_cell _ (by decide), qset_cell _ (by decide)])) (fun _ => (b.1 38 (by decide)).trans (by rw [qset_cell _ (by decide), qset_cell _ (by decide)])) (fun z => absurd z (by omega))
      exact H s' a r1 r2))
    rw [show N - (N.toNat : Int) = 0 by omega] at this
    exact this
/-- which known attribute a name is -/
theorem m167_43 {nm T : Int} {j : Nat} (hP : mPo s B n c) (ht : pT (mkP B c) nm = 1) (hj : (j : Int) ≤ T ∧ T ≤ 8) (H1 : pspells (mkP B c) nm (wK (j + 1)) = true → f j s) (H0 : pspells (mkP B c) nm (wK (j + 1)) = false → qR w 3 qm167 43 [(0, .ref 25), (2, qI nm), (4, qI T), (5, qI ((j : Int) + 1))] [] s (qPI f g)) : qR w 3 qm167 43 [(0, .ref 25), (2, qI nm), (4, qI T), (5, qI (j : Int))] [] s (qPI f g) := by
  have e : pspells (mkP B c) nm (wK (j + 1)) = gIs (pC (mkP B c) nm) 0 (pN (mkP B c) nm) (wM j) := by
    unfold pspells
    rw [decide_eq_true ht, Bool.true_and]
    have : wM j = wK (j + 1) := by
      rcases (show j = 0 ∨ j = 1 ∨ j = 2 ∨ j = 3 ∨ j = 4 ∨ j = 5 ∨ j = 6 ∨ j = 7 ∨ j = 8 by omega) with h | h | h | h | h | h | h | h | h <;> (subst h; rfl)
    rw [this]
  rw [e] at H1 H0
  refine k167_43 ⟨⟨by omega, by omega⟩, ⟨by omega, by omega⟩, fun y => absurd y (by omega), fun _ => m155 (t := j) (by omega) hP ht ⟨bi_rg _, fun z => H0 (bi_0.mp z), fun z => H1 (bi_n.mp z)⟩⟩
theorem m167_end {nm T : Int} (hT : Rg T ∧ Rg (T + 1)) (H : f (-1) s) : qR w 3 qm167 43 [(0, .ref 25), (2, qI nm), (4, qI T), (5, qI (T + 1))] [] s (qPI f g) :=
  k167_43 ⟨hT.2, hT.1, fun _ => H, fun y => absurd y (by omega)⟩
theorem m167 {pl nm : Int} (hP : mPo s B n c) (ht : pT (mkP B c) nm = 1) (hpl : pl = 1 ∨ pl = 2 ∨ pl = 3) (H : f (kFind (mkP B c) pl nm - 1) s) : qW w 4 167 [.ref 25, qI (pl - 1), qI nm] s (qPI f g) := by
  rcases hpl with rfl | rfl | rfl
  · have e : kFind (mkP B c) 1 nm = if pspells (mkP B c) nm (wK 1) = true then 1 else 0 := by
      unfold kFind
      simp only [show ¬ ((1 : Int) = 2) by decide, show ¬ ((1 : Int) = 3) by decide, false_and, true_and, if_false]
    rw [e] at H
    refine k167 ⟨d0, fun _ => k167_18 ⟨d0, fun _ => k167_38 (m167_43 (j := 0) hP ht ⟨by decide, by decide⟩ (fun z => ?_) (fun z => m167_end ⟨d0, d1⟩ ?_)), fun y => absurd rfl y⟩, fun y => absurd rfl y⟩
    · rw [if_pos z] at H; exact H
    · rw [if_neg (by rw [z]; decide)] at H; exact H
  · have e : kFind (mkP B c) 2 nm = if pspells (mkP B c) nm (wK 2) = true then 2 else if pspells (mkP B c) nm (wK 3) = true then 3 else 0 := by
      unfold kFind
      simp only [show ¬ ((2 : Int) = 1) by decide, show ¬ ((2 : Int) = 3) by decide, false_and, true_and, if_false]
    rw [e] at H
    refine k167 ⟨d1, fun y => absurd y (by decide), fun _ => ⟨fun _ => k167_18 ⟨d1, fun y => absurd y (by decide), fun _ => ⟨fun _ => k167_38 (m167_43 (j := 1) hP ht ⟨by decide, by decide⟩ (fun z => ?_) (fun z => m167_43 (j := 2) hP ht ⟨by decide, by decide⟩ (fun z2 => ?_) (fun z2 => m167_end ⟨⟨by decide, by decide⟩, ⟨by decide, by decide⟩⟩ ?_))), fun y => absurd rfl y⟩⟩, fun y => absurd rfl y⟩⟩
    · rw [if_pos z] at H; exact H
    · rw [if_neg (by rw [z]; decide), if_pos z2] at H; exact H
    · rw [if_neg (by rw [z]; decide), if_neg (by rw [z2]; decide)] at H; exact H
  · have e : kFind (mkP B c) 3 nm = if pspells (mkP B c) nm (wK 4) = true then 4 else if pspells (mkP B c) nm (wK 5) = true then 5 else if pspells (mkP B c) nm (wK 6) = true then 6 else if pspells (mkP B c) nm (wK 7) = true then 7 else if pspells (mkP B c) nm (wK 8) = true then 8 else if pspells (mkP B c) nm (wK 9) = true then 9 else 0 := by
      unfold kFind
      simp only [show ¬ ((3 : Int) = 1) by decide, show ¬ ((3 : Int) = 2) by decide, false_and, true_and, if_false]
    rw [e] at H
    have r2 : Rg (3 - 1) := ⟨by decide, by decide⟩
    refine k167 ⟨r2, fun y => absurd y (by decide), fun _ => ⟨fun y => absurd y (by decide), fun _ => k167_18 ⟨r2, fun y => absurd y (by decide), fun _ => ⟨fun y => absurd y (by decide), fun _ => k167_38 ?_⟩⟩⟩⟩
    refine m167_43 (j := 3) hP ht ⟨by decide, by decide⟩ (fun z => ?_) (fun z3 => m167_43 (j := 4) hP ht ⟨by decide, by decide⟩ (fun z => ?_) (fun z4 => m167_43 (j := 5) hP ht ⟨by decide, by decide⟩ (fun z => ?_) (fun z5 => m167_43 (j := 6) hP ht ⟨by decide, by decide⟩ (fun z => ?_) (fun z6 => m167_43 (j := 7) hP ht ⟨by decide, by decide⟩ (fun z => ?_) (fun z7 => m167_43 (j := 8) hP ht ⟨by decide, by decide⟩ (fun z => ?_) (fun z8 => m167_end ⟨⟨by decide, by decide⟩, ⟨by decide, by decide⟩⟩ ?_))))))
    · rw [if_pos z] at H; exact H
    · rw [if_neg (by rw [z3]; decide), if_pos z] at H; exact H
    · rw [if_neg (by rw [z3]; decide), if_neg (by rw [z4]; decide), if_pos z] at H; exact H
    · rw [if_neg (by rw [z3]; decide), if_neg (by rw [z4]; decide), if_neg (by rw [z5]; decide), if_pos z] at H; exact H
    · rw [if_neg (by rw [z3]; decide), if_neg (by rw [z4]; decide), if_neg (by rw [z5]; decide), if_neg (by rw [z6]; decide), if_pos z] at H; exact H
    · rw [if_neg (by rw [z3]; decide), if_neg (by rw [z4]; decide), if_neg (by rw [z5]; decide), if_neg (by rw [z6]; decide), if_neg (by rw [z7]; decide), if_pos z] at H; exact H
    · rw [if_neg (by rw [z3]; decide), if_neg (by rw [z4]; decide), if_neg (by rw [z5]; decide), if_neg (by rw [z6]; decide), if_neg (by rw [z7]; decide), if_neg (by rw [z8]; decide)] at H; exact H
end MD
