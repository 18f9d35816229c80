/-! THE MODEL reads attributes: the bodies of the whole's -/
def mFw (s s' : qS) : Prop := (∀ k, k ≠ 25 → k ≠ 36 → k ≠ 37 → k ≠ 38 → s' k = s k) ∧ ∀ j, j ≠ 5 → j ≠ 6 → s' 25 j = s 25 j
theorem mFw.trans {s s' s'' : qS} (h : mFw s s') (h' : mFw s' s'') : mFw s s'' := ⟨fun k a b c d => (h'.1 k a b c d).trans (h.1 k a b c d), fun j j1 j2 => (h'.2 j j1 j2).trans (h.2 j j1 j2)⟩
theorem mSm.fw {s s' : qS} (h : mSm s s') : mFw s s' := ⟨fun k a _ _ _ => h.1 k a, h.2⟩
theorem mFw.set {s s' : qS} (h : mFw s s') {k : Nat} (j v : Int) (hk : k = 36 ∨ k = 37 ∨ k = 38) : mFw s (qset s' k j v) := by
  refine ⟨fun x a b c d => ?_, fun j j1 j2 => ?_⟩
  · rw [qset_cell _ (by omega)]; exact h.1 x a b c d
  · rw [qset_cell _ (by omega)]; exact h.2 j j1 j2
theorem mFw.po {s s' : qS} {B : Int → Int} {n c : Int} (h : mFw s s') (hP : mPo s B n c) : mPo s' B n c := hP.fr (h.2 11 (by decide) (by decide)) (h.1 26 (by decide) (by decide) (by decide) (by decide)) (h.1 28 (by decide) (by decide) (by decide) (by decide)) (h.1 29 (by decide) (by decide) (by decide) (by decide))
section MC
variable {w : qE} {s s0 s1 : qS} {B P : Int → Int} {n c i k p e m : Int} {f : Int → qS → Prop} {fv : qS → Prop} {g : Nat → qS → Prop}
theorem m174_24_d (hF : mFt s0 e s) {v2 v3 : Int} (h2 : Rg v2) (h3 : Rg v3) (H : fv s) : qR w 4 qm174 24 [(0, .ref 25), (2, qI v2), (3, qI v3)] [] s (qPV fv g) :=
  k174_24 ⟨h3, h2, fun _ => m134_d hF ⟨d0, fun _ => k174_99 H, fun y => absurd rfl y⟩, fun _ => k174_99 H⟩
theorem m174_loop (hS : mS s0 B n) {N : Int} (hN : 0 ≤ N ∧ N ≤ 65535) : ∀ (d : Nat) (p : Int) (s : qS), (d : Int) ≤ N → mAt s0 p s → 0 ≤ p → p ≤ n → mPo s B n c → qRes (rLds (mkP B c) B n d p) (fun e => ∀ s', mFt s0 e s' → fv s') (fun r => ∀ s', mAt s0 r s' → mSm s s' → fv s') → qR w 4 qm174 24 [(0, .ref 25), (2, qI N), (3, qI (N - d))] [] s (qPV fv g) := by
  have h5 := hS.1.2.1
  intro d
  induction d with
  | zero =>
    intro p s hd hA h0 h1 hP H
    exact k174_24 ⟨⟨by omega, by omega⟩, ⟨by omega, by omega⟩, fun y => absurd y (by omega), fun _ => k174_99 (H s hA (mSm.rfl' s))⟩
  | succ d ih =>
    intro p s hd hA h0 h1 hP H
    unfold rLds at H
    rw [qRes_bd] at H
    have rm : Rg N := ⟨by omega, by omega⟩
    have rm1 : Rg (N - ((d + 1 : Nat) : Int) + 1) := ⟨by omega, by omega⟩
    refine k174_24 ⟨⟨by omega, by omega⟩, rm, fun _ => m134 hA ⟨d1, fun y => absurd y (by decide), fun _ => m131 hS hA h0 h1 (qRes_mono H (fun e he H v q v0 v1 q0 q1 => ?_) (fun v hv H => ?_))⟩, fun y => absurd y (by omega)⟩
    · have en := rU2_l he
      have hF := hA.dd (q := q) (e := e) ⟨by omega, by omega⟩ (by omega) ⟨by omega, by omega⟩
      exact m139 (mDd_po hP q e) ⟨by omega, by omega⟩ (m134_d hF ⟨d0, fun _ => k174_93 (m174_24_d hF rm rm1 (H _ hF)), fun y => absurd rfl y⟩)
    · obtain ⟨q1, rfl⟩ := rU2_r hv
      have r := b2_rg hS.1 h0 q1
      have hM : mSm s (qset s 25 5 (p + 2)) := (mSm.rfl' s).mv _
      have hA2 := hA.mv (p + 2)
      have hR := (mRg hP (b2 B p)).1
      rw [qRes_bd] at H
      have good : okLd (pT (mkP B c) (b2 B p)) = true → qR w 4 qm174 93 [(0, .ref 25), (2, qI N), (3, qI (N - ((d + 1 : Nat) : Int)))] [] (qset s 25 5 (p + 2)) (qPV fv g) := fun hh => by
        rw [hh] at H
        refine k174_93 ?_
        rw [show N - ((d + 1 : Nat) : Int) + 1 = N - (d : Int) by omega]
        exact ih _ _ (by omega) hA2 (by omega) q1 (hM.po hP) (qRes_mono H (fun _ _ h => h) (fun r _ H s' a b => H s' a (hM.trans b)))
      refine m139 (hM.po hP) ⟨by omega, by omega⟩ (m134 hA2 ⟨d1, fun y => absurd y (by decide), fun _ => m125 hR ⟨by decide, by decide⟩ ⟨by decide, by decide⟩ ⟨bi_rg _, fun z => m125 hR ⟨by decide, by decide⟩ ⟨by decide, by decide⟩ ⟨bi_rg _, fun z2 => ?_, fun z2 => good ?_⟩, fun z => good ?_⟩⟩)
      · rw [bi_0, decide_eq_false_iff_not] at z z2
        have hh : okLd (pT (mkP B c) (b2 B p)) = false := decide_eq_false (by omega)
        rw [hh] at H
        have hF := hA2.ft (e := p) ⟨by omega, by omega⟩ h0 ⟨by omega, by omega⟩
        rw [hA.2.1]
        exact m133 hA2 (k174_93 (m174_24_d hF rm rm1 (H _ hF)))
      · rw [bi_n, decide_eq_true_iff] at z2
        exact decide_eq_true (by omega)
      · rw [bi_n, decide_eq_true_iff] at z
        exact decide_eq_true (by omega)
theorem m174 {x : Int} (hS : mS s0 B n) (hA : mAt s0 p s) (h0 : 0 ≤ p) (h1 : p ≤ n) (hP : mPo s B n c) (hx : 0 ≤ x ∧ x < 170) (H : qRes (bd (rTake (mkP B c) B n p 15) (fun _ => bd (rU2 B n (p + 2)) (fun m => rLds (mkP B c) B n m.toNat (p + 4)))) (fun e => ∀ s', mFt s0 e s' → fv s') (fun r => ∀ s', mAt s0 r s' → mSm (qset s 38 x p) s' → fv s')) : qW w 5 174 [.ref 25, qI x] s (qPV fv g) := by
  have hA1 : mAt s0 p (qset s 38 x p) := hA.set (by omega) (fun y => absurd y (by omega)) (fun y => absurd y (by omega))
  have hP1 : mPo (qset s 38 x p) B n c := mSet_po hP _ (by decide) (fun y => absurd y (by decide))
  refine k174 ⟨hx.1, hx.2, ?_⟩
  rw [hA.2.1]
  rw [qRes_bd] at H
  refine m171_0' hS hA1 h0 h1 hP1 (by decide) (qRes_mono H (fun e he H s' hF => m131_d hS hF (m174_24_d hF d0 d0 (H s' hF))) (fun v hv H => ?_))
  obtain ⟨q1, -⟩ := rTake_v hv
  have hA2 := hA1.mv (p + 2)
  have hM2 : mSm (qset s 38 x p) (qset (qset s 38 x p) 25 5 (p + 2)) := (mSm.rfl' _).mv _
  rw [qRes_bd] at H
  refine m131' hS hA2 (by omega) q1 (qRes_mono H (fun e he H v s' v0 v1 hF => m174_24_d hF ⟨by omega, by omega⟩ d0 (H s' hF)) (fun v hv2 H => ?_))
  obtain ⟨q2, rfl⟩ := rU2_r hv2
  have r := b2_rg hS.1 (p := p + 2) (by omega) q2
  have hM3 := hM2.mv (p + 2 + 2)
  have := m174_loop (w := w) (g := g) hS r (b2 B (p + 2)).toNat (p + 2 + 2) _ (by omega) (hA2.mv _) (by omega) q2 (hM3.po hP1) (by rw [show p + 2 + 2 = p + 4 by omega]; exact qRes_mono H (fun _ _ h => h) (fun r _ H s' a b => H s' a ((show p + 2 + 2 = p + 4 by omega) ▸ hM3 |>.trans b)))
  rw [show b2 B (p + 2) - ((b2 B (p + 2)).toNat : Int) = 0 by omega] at this
  exact this
theorem m173_38_d (hF : mFt s0 e s) {v1 v2 v3 : Int} (h2 : Rg v2) (h3 : Rg v3) (H : fv s) : qR w 5 qm173 38 [(0, .ref 25), (1, qI v1), (2, qI v2), (3, qI v3)] [] s (qPV fv g) :=
  k173_38 ⟨h3, h2, fun _ => m134_d hF ⟨d0, fun _ => k173_115 H, fun y => absurd rfl y⟩, fun _ => k173_115 H⟩
theorem m173_83_d (hS : mS s0 B n) (hF : mFt s0 e s) {v1 v2 v3 : Int} (h1 : Rg v1) (h2 : Rg v2) (h3 : Rg (v3 + 1)) (H : fv s) : qR w 5 qm173 83 [(0, .ref 25), (1, qI v1), (2, qI v2), (3, qI v3)] [] s (qPV fv g) :=
  k173_83 ⟨h1, fun _ => m171_d hS hF (m171_d hS hF (m131_d hS hF (k173_109 (m173_38_d hF h2 h3 H)))), fun _ => k173_109 (m173_38_d hF h2 h3 H)⟩
/-- lists of classes -/
theorem m173_cls (hS : mS s0 B n) {N x : Int} (hN : 0 ≤ N ∧ N ≤ 65535) (hx : x = 6 ∨ x = 7) : ∀ (d : Nat) (p : Int) (s : qS), (d : Int) ≤ N → mAt s0 p s → 0 ≤ p → p ≤ n → mPo s B n c → qRes (rTks (mkP B c) B n d p) (fun e => ∀ s', mFt s0 e s' → fv s') (fun r => ∀ s', mAt s0 r s' → mSm s s' → fv s') → qR w 5 qm173 38 [(0, .ref 25), (1, qI x), (2, qI N), (3, qI (N - d))] [] s (qPV fv g) := by
  have h5 := hS.1.2.1
  intro d
  induction d with
  | zero =>
    intro p s hd hA h0 h1 hP H
    exact k173_38 ⟨⟨by omega, by omega⟩, ⟨by omega, by omega⟩, fun y => absurd y (by omega), fun _ => k173_115 (H s hA (mSm.rfl' s))⟩
  | succ d ih =>
    intro p s hd hA h0 h1 hP H
    unfold rTks at H
    rw [qRes_bd] at H
    have rm : Rg N := ⟨by omega, by omega⟩
    have rm1 : Rg (N - ((d + 1 : Nat) : Int) + 1) := ⟨by omega, by omega⟩
    have rx : Rg x := ⟨by omega, by omega⟩
    refine k173_38 ⟨⟨by omega, by omega⟩, rm, fun _ => m134 hA ⟨d1, fun y => absurd y (by decide), fun _ => ⟨rx, fun y => absurd y (by omega), fun _ => m171_0' hS hA h0 h1 hP (by decide) (qRes_mono H (fun e he H s' hF => ⟨fun y => absurd y (by omega), fun _ => m173_83_d hS hF rx rm rm1 (H s' hF)⟩) (fun v hv H => ⟨fun y => absurd y (by omega), fun _ => k173_83 ⟨rx, fun y => absurd y (by omega), fun _ => k173_109 ?_⟩⟩))⟩⟩, fun y => absurd y (by omega)⟩
    obtain ⟨q1, -⟩ := rTake_v hv
    have hM : mSm s (qset s 25 5 (p + 2)) := (mSm.rfl' s).mv _
    rw [show N - ((d + 1 : Nat) : Int) + 1 = N - (d : Int) by omega]
    exact ih _ _ (by omega) (hA.mv _) (by omega) q1 (hM.po hP) (qRes_mono H (fun _ _ h => h) (fun r _ H s' a b => H s' a (hM.trans b)))
theorem m173_inn (hS : mS s0 B n) {N : Int} (hN : 0 ≤ N ∧ N ≤ 65535) : ∀ (d : Nat) (p : Int) (s : qS), (d : Int) ≤ N → mAt s0 p s → 0 ≤ p → p ≤ n → mPo s B n c → qRes (rIns (mkP B c) B n d p) (fun e => ∀ s', mFt s0 e s' → fv s') (fun r => ∀ s', mAt s0 r s' → mSm s s' → fv s') → qR w 5 qm173 38 [(0, .ref 25), (1, qI 3), (2, qI N), (3, qI (N - d))] [] s (qPV fv g) := by
  have h5 := hS.1.2.1
  intro d
  induction d with
  | zero =>
    intro p s hd hA h0 h1 hP H
    exact k173_38 ⟨⟨by omega, by omega⟩, ⟨by omega, by omega⟩, fun y => absurd y (by omega), fun _ => k173_115 (H s hA (mSm.rfl' s))⟩
  | succ d ih =>
    intro p s hd hA h0 h1 hP H
    unfold rIns rIn1 at H
    rw [qRes_bd, qRes_bd] at H
    have rm : Rg N := ⟨by omega, by omega⟩
    have rm1 : Rg (N - ((d + 1 : Nat) : Int) + 1) := ⟨by omega, by omega⟩
    have rx : Rg 3 := ⟨by omega, by omega⟩
    refine k173_38 ⟨⟨by omega, by omega⟩, rm, fun _ => m134 hA ⟨d1, fun y => absurd y (by decide), fun _ => ⟨rx, fun y => absurd y (by decide), fun _ => m171_0' hS hA h0 h1 hP (by decide) (qRes_mono H (fun e he H s' hF => ⟨fun y => absurd y (by decide), fun _ => m173_83_d hS hF rx rm rm1 (H s' hF)⟩) (fun v hv H => ⟨fun y => absurd y (by decide), fun _ => k173_83 ⟨rx, fun _ => ?_, fun y => absurd rfl y⟩⟩))⟩⟩, fun y => absurd y (by omega)⟩
    obtain ⟨q1, -⟩ := rTake_v hv
    have hM : mSm s (qset s 25 5 (p + 2)) := (mSm.rfl' s).mv _
    have hA1 := hA.mv (p + 2)
    rw [qRes_bd] at H
    refine m171_1' hS hA1 (by omega) q1 (hM.po hP) (by decide) (qRes_mono H (fun e he H s' hF => m171_d hS hF (m131_d hS hF (k173_109 (m173_38_d hF rm rm1 (H s' hF))))) (fun v hv2 H => ?_))
    obtain ⟨q2, -⟩ := rTake0_v hv2
    have hM2 := hM.mv (p + 2 + 2)
    have hA2 := hA1.mv (p + 2 + 2)
    rw [show p + 2 + 2 = p + 4 by omega] at hM2 hA2 q2 ⊢
    rw [qRes_bd] at H
    refine m171_1' hS hA2 (by omega) q2 (hM2.po hP) (by decide) (qRes_mono H (fun e he H s' hF => m131_d hS hF (k173_109 (m173_38_d hF rm rm1 (H s' hF)))) (fun v hv3 H => ?_))
    obtain ⟨q3, -⟩ := rTake0_v hv3
    have hM3 := hM2.mv (p + 4 + 2)
    have hA3 := hA2.mv (p + 4 + 2)
    rw [show p + 4 + 2 = p + 6 by omega] at hM3 hA3 q3 ⊢
    rw [qRes_bd] at H
    refine m131' hS hA3 (by omega) q3 (qRes_mono H (fun e he H v s' _ _ hF => k173_109 (m173_38_d hF rm rm1 (H s' hF))) (fun v hv4 H => k173_109 ?_))
    obtain ⟨q4, -⟩ := rU2_r hv4
    have hM4 := hM3.mv (p + 6 + 2)
    have hA4 := hA3.mv (p + 6 + 2)
    rw [show p + 6 + 2 = p + 8 by omega] at hM4 hA4 q4 ⊢
    rw [show N - ((d + 1 : Nat) : Int) + 1 = N - (d : Int) by omega]
    exact ih _ _ (by omega) hA4 (by omega) q4 (hM4.po hP) (qRes_mono H (fun _ _ h => h) (fun r _ H s' a b => H s' a (hM4.trans b)))
theorem rLds_r2 {π : qP} : ∀ (d : Nat) (p r : Int), rLds π B n d p = .inr r → r = p + 2 * d ∧ (p ≤ n → r ≤ n) := by
  intro d
  induction d with
  | zero => intro p r h; cases h; exact ⟨by omega, fun h => h⟩
  | succ d ih =>
    intro p r h
    unfold rLds at h
    obtain ⟨v, h1, h⟩ := bd_inr.mp h
    obtain ⟨u, -, h⟩ := bd_inr.mp h
    obtain ⟨q1, -⟩ := rU2_r h1
    have := ih _ _ h
    exact ⟨by omega, fun _ => this.2 q1⟩
theorem m173_boo (hS : mS s0 B n) {N a : Int} (hN : 0 ≤ N ∧ N ≤ 65535) (ha : 8 ≤ a) : ∀ (d : Nat) (p : Int) (s : qS), (d : Int) ≤ N → mAt s0 p s → a + 4 * (N - d) ≤ p → p ≤ n → p = bpos B a (N - d).toNat → mPo s B n c → (∀ k : Nat, (k : Int) < N - d → s 38 k = bpos B a k) → qRes (rBts (mkP B c) B n d p) (fun e => ∀ s', mFt s0 e s' → fv s') (fun r => ∀ s', mAt s0 r s' → (∀ k, k ≠ 25 → k ≠ 38 → s' k = s k) → (∀ j, j ≠ 5 → j ≠ 6 → s' 25 j = s 25 j) → (∀ k : Nat, (k : Int) < N → s' 38 k = bpos B a k) → fv s') → qR w 5 qm173 38 [(0, .ref 25), (1, qI 8), (2, qI N), (3, qI (N - d))] [] s (qPV fv g) := by
  have h5 := hS.1.2.1
  intro d
  induction d with
  | zero =>
    intro p s hd hA h0 h1 hpp hP hb H
    refine k173_38 ⟨⟨by omega, by omega⟩, ⟨by omega, by omega⟩, fun y => absurd y (by omega), fun _ => k173_115 (H s hA (fun _ _ _ => rfl) (fun _ _ _ => rfl) (fun k hk => hb k (by omega)))⟩
  | succ d ih =>
    intro p s hd hA h0 h1 hpp hP hb H
    unfold rBts at H
    have rm : Rg N := ⟨by omega, by omega⟩
    have rm1 : Rg (N - ((d + 1 : Nat) : Int) + 1) := ⟨by omega, by omega⟩
    have rx : Rg 8 := ⟨by omega, by omega⟩
    obtain ⟨x, hx⟩ : ∃ x : Nat, N - ((d + 1 : Nat) : Int) = x := ⟨(N - ((d + 1 : Nat) : Int)).toNat, by omega⟩
    refine k173_38 ⟨⟨by omega, by omega⟩, rm, fun _ => m134 hA ⟨d1, fun y => absurd y (by decide), fun _ => ⟨rx, fun _ => m174 hS hA (by omega) h1 hP (by omega) ?_, fun y => absurd rfl y⟩⟩, fun y => absurd y (by omega)⟩
    rw [qRes_bd] at H ⊢
    refine qRes_mono H (fun e _ H s' hF => k173_109 (m173_38_d hF rm rm1 (H s' hF))) (fun v hv H => ?_)
    obtain ⟨q1, -⟩ := rTake_v hv
    rw [qRes_bd] at H ⊢
    refine qRes_mono H (fun e _ H s' hF => k173_109 (m173_38_d hF rm rm1 (H s' hF))) (fun v hv2 H => ?_)
    obtain ⟨q2, rfl⟩ := rU2_r hv2
    have r2 := b2_rg hS.1 (p := p + 2) (by omega) q2
    rw [qRes_bd] at H
    refine qRes_mono H (fun e _ H s' hF => k173_109 (m173_38_d hF rm rm1 (H s' hF))) (fun r hr H s' a1 a2 => ?_)
    obtain ⟨e1, e2⟩ := rLds_r2 _ _ _ hr
    have e2 := e2 (by omega)
    have hb0 : ∀ k : Nat, s' 38 k = if (k : Int) = x then p else s 38 k := fun k => by
      rw [a2.1 38 (by decide), qset_same, hx]
    refine k173_109 ?_
    rw [show N - ((d + 1 : Nat) : Int) + 1 = N - (d : Int) by omega]
    have hP2 : mPo s' B n c := a2.po (mSet_po hP _ (by decide) (fun y => absurd y (by decide)))
    refine ih r s' (by omega) a1 (by omega) e2 ?_ hP2 (fun k hk => ?_) (qRes_mono H (fun _ _ h => h) (fun r _ H s'' b1 b2 b3 b4 => H s'' b1 (fun k k1 k2 => ?_) (fun j j1 j2 => ?_) b4))
    · rw [show (N - (d : Int)).toNat = x + 1 by omega]
      have hpx : p = bpos B a x := by rw [hpp, hx]; rfl
      show r = bpos B a x + 4 + 2 * b2 B (bpos B a x + 2)
      rw [← hpx]
      omega
    · rw [hb0]
      split
      · next h => rw [hpp, hx, show (x : Int).toNat = k by omega]
      · next h => exact hb k (by omega)
    · rw [b2 k k1 k2, a2.1 k k1, qset_cell _ k2]
    · rw [b3 j j1 j2, a2.2 j j1 j2, qset_cell _ (by decide)]
end MC
