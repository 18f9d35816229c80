/-! THE MODEL reads attributes: the bodies of a member's -/
/-- what a member's body may change: at, and row m of inside, rows, named -/
def mFm (m : Int) (s s' : qS) : Prop := (∀ k, k ≠ 25 → k ≠ 32 → k ≠ 33 → k ≠ 34 → s' k = s k) ∧ (∀ j, j ≠ m → s' 32 j = s 32 j ∧ s' 33 j = s 33 j ∧ s' 34 j = s 34 j) ∧ ∀ j, j ≠ 5 → j ≠ 6 → s' 25 j = s 25 j
theorem mFm.rfl' (m : Int) (s : qS) : mFm m s s := ⟨fun _ _ _ _ _ => rfl, fun _ _ => ⟨rfl, rfl, rfl⟩, fun _ _ _ => rfl⟩
theorem mFm.trans {m : Int} {s s' s'' : qS} (h : mFm m s s') (h' : mFm m s' s'') : mFm m s s'' :=
  ⟨fun k a b c d => (h'.1 k a b c d).trans (h.1 k a b c d), fun j hj => ⟨(h'.2.1 j hj).1.trans (h.2.1 j hj).1, (h'.2.1 j hj).2.1.trans (h.2.1 j hj).2.1, (h'.2.1 j hj).2.2.trans (h.2.1 j hj).2.2⟩, fun j j1 j2 => (h'.2.2 j j1 j2).trans (h.2.2 j j1 j2)⟩
theorem mSm.fm {s s' : qS} (h : mSm s s') (m : Int) : mFm m s s' := ⟨fun k a _ _ _ => h.1 k a, fun j _ => by rw [h.1 32 (by decide), h.1 33 (by decide), h.1 34 (by decide)]; exact ⟨rfl, rfl, rfl⟩, h.2⟩
theorem mFm.set {m : Int} {s s' : qS} (h : mFm m s s') {k : Nat} (v : Int) (hk : k = 32 ∨ k = 33 ∨ k = 34) : mFm m s (qset s' k m v) := by
  refine ⟨fun x a b c d => ?_, fun j hj => ⟨?_, ?_, ?_⟩, fun j j1 j2 => ?_⟩
  · rw [qset_cell _ (by omega)]; exact h.1 x a b c d
  · rw [qset_eq, if_neg (fun y => hj y.2)]; exact (h.2.1 j hj).1
  · rw [qset_eq, if_neg (fun y => hj y.2)]; exact (h.2.1 j hj).2.1
  · rw [qset_eq, if_neg (fun y => hj y.2)]; exact (h.2.1 j hj).2.2
  · rw [qset_cell _ (by omega)]; exact h.2.2 j j1 j2
theorem mFm.po {m : Int} {s s' : qS} {B : Int → Int} {n c : Int} (h : mFm m s s') (hP : mPo s B n c) : mPo s' B n c := hP.fr (h.2.2 11 (by decide) (by decide)) (h.1 26 (by decide) (by decide) (by decide) (by decide)) (h.1 28 (by decide) (by decide) (by decide) (by decide)) (h.1 29 (by decide) (by decide) (by decide) (by decide))
section MB
variable {w : qE} {s s0 s1 : qS} {B P : Int → Int} {n c i k p e m : Int} {f : Int → qS → Prop} {fv : qS → Prop} {g : Nat → qS → Prop}
theorem mFt.w3 (h : mFt s0 e s) {k : Nat} {j v : Int} (hk : k = 32 ∨ k = 33 ∨ k = 34) : mFt s0 e (qset s k j v) := h.set (by omega) (fun y => absurd y (by omega)) (fun y => absurd y (by omega))
theorem mAt.w3 (h : mAt s0 p s) {k : Nat} {j v : Int} (hk : k = 32 ∨ k = 33 ∨ k = 34) : mAt s0 p (qset s k j v) := h.set (by omega) (fun y => absurd y (by omega)) (fun y => absurd y (by omega))
theorem m170_67_d (hF : mFt s0 e s) {v1 v3 : Int} (H : fv s) : qR w 5 qm170 67 [(0, .ref 25), (1, qI v1), (3, qI v3)] [] s (qPV fv g) := k170_67 (m134_d hF ⟨d0, fun _ => H, fun y => absurd rfl y⟩)
theorem m170_38_d (hF : mFt s0 e s) {v1 v3 : Int} (H : fv s) : qR w 5 qm170 38 [(0, .ref 25), (1, qI v1), (3, qI v3)] [] s (qPV fv g) := k170_38 (m134_d hF ⟨d0, fun _ => m170_67_d hF H, fun y => absurd rfl y⟩)
theorem m170 (hS : mS s0 B n) (hA : mAt s0 p s) (h0 : 0 ≤ p) (h1 : p ≤ n) (hP : mPo s B n c) (hm : 0 ≤ m ∧ m < 160) (H : qRes (rCode (mkP B c) B n p) (fun e => ∀ s', mFt s0 e s' → fv s') (fun r => ∀ s', mAt s0 r s' → mFm m s s' → s' 32 m = b4 B (p + 4) → s' 33 m = b2 B (p + 8 + b4 B (p + 4)) → s' 34 m = s 34 m → fv s')) : qW w 6 170 [.ref 25, qI m] s (qPV fv g) := by
  have h5 := hS.1.2.1
  have rn : ∀ q : Int, 0 ≤ q → q ≤ n → Rg q := fun q q0 q1 => ⟨by omega, by omega⟩
  unfold rCode at H
  rw [qRes_bd] at H
  unfold rBy at H
  refine k170 (m130' hS hA h0 h1 ?_)
  unfold rU4
  split
  · next h4 =>
    rw [if_pos (by omega)] at H
    exact fun v s' hv hF => m130_d hS hF (m134_d hF ⟨d0, fun _ => m170_38_d hF (H s' hF), fun y => absurd rfl y⟩)
  next h4 =>
  rw [if_neg (by omega)] at H
  have H : qRes (bd (rU4 B n (p + 4)) fun sz => bd (rCk (decide (1 ≤ sz ∧ sz ≤ 65535)) (p + 4)) fun _ => bd (if sz < 0 ∨ n < p + 8 + sz then .inl n else .inr ()) fun _ => bd (rU2 B n (p + 8 + sz)) fun m => bd (rHands (mkP B c) B n sz m.toNat (p + 8 + sz + 2)) fun q => rSks (mkP B c) B n q) _ _ := H
  have hA1 := hA.mv (p + 4)
  have hM1 : mSm s (qset s 25 5 (p + 4)) := (mSm.rfl' s).mv _
  rw [qRes_bd] at H
  refine m130' hS hA1 (by omega) (by omega) (qRes_mono H (fun e he H v s' hv hF => m134_d hF ⟨d0, fun _ => m170_38_d hF (H s' hF), fun y => absurd rfl y⟩) (fun v hv H => ?_))
  obtain ⟨q1, rfl⟩ := rU4_r hv
  have hA2 := hA1.mv (p + 4 + 4)
  have hM2 := hM1.mv (p + 4 + 4)
  rw [show p + 4 + 4 = p + 8 by omega] at hA2 hM2 ⊢
  obtain ⟨sz, hsz⟩ : ∃ sz, b4 B (p + 4) = sz := ⟨_, rfl⟩
  have rsz : Rg sz := by rw [← hsz]; exact b4_rg _ _
  rw [hsz] at H ⊢
  obtain ⟨x, hx⟩ : ∃ x, qset (qset s 25 5 (p + 4)) 25 5 (p + 8) = x := ⟨_, rfl⟩
  rw [hx] at hA2 hM2 ⊢
  have x4 : x 25 4 = n := hA2.1.2.2.2.2.2.1.trans hS.2.1
  rw [qRes_bd] at H
  refine m134 hA2 ⟨d1, fun y => absurd y (by decide), fun _ => m125 rsz ⟨by decide, by decide⟩ ⟨by decide, by decide⟩ ⟨bi_rg _, fun z => ?_, fun z => ?_⟩⟩
  · rw [bi_0] at z
    rw [z] at H
    rw [hA1.2.1]
    have hF := hA2.ft (e := p + 4) (rn _ (by omega) (by omega)) (by omega) (rn _ (by omega) (by omega))
    exact m133 hA2 (m170_38_d hF (H _ hF))
  · rw [bi_n] at z
    rw [z] at H
    have z := of_decide_eq_true z
    have H : qRes (bd (if sz < 0 ∨ n < p + 8 + sz then .inl n else .inr ()) fun _ => bd (rU2 B n (p + 8 + sz)) fun m => bd (rHands (mkP B c) B n sz m.toNat (p + 8 + sz + 2)) fun q => rSks (mkP B c) B n q) _ _ := H
    refine k170_38 (m134 hA2 ⟨d1, fun y => absurd y (by decide), fun _ => ?_⟩)
    rw [x4, hA2.2.1]
    refine ⟨rsz, ⟨by omega, by omega⟩, fun y => ?_, fun y => k170_67 (m134 hA2 ⟨d1, fun y => absurd y (by decide), fun _ => ⟨hm.1, hm.2, ?_⟩⟩)⟩
    · rw [if_pos (by omega)] at H
      have hF := hA2.ft (e := n) (rn _ (by omega) (by omega)) (by omega) (rn _ (by omega) (by omega))
      exact m133 hA2 (m170_67_d hF (H _ hF))
    · rw [if_neg (by omega)] at H
      have H : qRes (bd (rU2 B n (p + 8 + sz)) fun m => bd (rHands (mkP B c) B n sz m.toNat (p + 8 + sz + 2)) fun q => rSks (mkP B c) B n q) _ _ := H
      rw [hA2.2.1]
      have hA3 := (hA2.mv (p + 8 + sz)).w3 (k := 32) (j := m) (v := sz) (Or.inl rfl)
      have hM3 := ((hM2.mv (p + 8 + sz)).fm m).set (k := 32) sz (Or.inl rfl)
      have x34 : qset (qset x 25 5 (p + 8 + sz)) 32 m sz 34 m = s 34 m := by rw [qset_cell _ (by decide), qset_cell _ (by decide), hM2.1 34 (by decide)]
      have x32 : qset (qset x 25 5 (p + 8 + sz)) 32 m sz 32 m = sz := by rw [qset_same, if_pos rfl]
      obtain ⟨y', hy'⟩ : ∃ y', qset (qset x 25 5 (p + 8 + sz)) 32 m sz = y' := ⟨_, rfl⟩
      rw [hy'] at hA3 hM3 x34 x32 ⊢
      rw [qRes_bd] at H
      refine m131' hS hA3 (by omega) (by omega) (qRes_mono H (fun e he H v s' v0 v1 hF => ⟨hm.1, hm.2, m170_105_d (hF.w3 (Or.inr (Or.inl rfl))) hm ?_ d0 (H _ (hF.w3 (Or.inr (Or.inl rfl))))⟩) (fun v hv2 H => ⟨hm.1, hm.2, ?_⟩))
      · rw [qset_same, if_pos rfl]; exact ⟨by omega, by omega⟩
      · obtain ⟨q2, rfl⟩ := rU2_r hv2
        have r := b2_rg hS.1 (p := p + 8 + sz) (by omega) q2
        have hA4 := (hA3.mv (p + 8 + sz + 2)).w3 (k := 33) (j := m) (v := b2 B (p + 8 + sz)) (Or.inr (Or.inl rfl))
        have hM4 := (hM3.trans (((mSm.rfl' y').mv (p + 8 + sz + 2)).fm m)).set (k := 33) (b2 B (p + 8 + sz)) (Or.inr (Or.inl rfl))
        have := m170_loop (w := w) (g := g) (fv := fv) (v1 := m) hS r (sz := sz) z hm (b2 B (p + 8 + sz)).toNat (p + 8 + sz + 2) _ (by omega) hA4 (by omega) q2 (hM4.po hP) (by rw [qset_same, if_pos rfl]) (qRes_mono H (fun _ _ h => h) (fun r _ H s' a b => H s' a (hM4.trans (b.fm m)) ?_ ?_ ?_))
        · rw [show b2 B (p + 8 + sz) - ((b2 B (p + 8 + sz)).toNat : Int) = 0 by omega] at this
          exact this
        · rw [b.1 32 (by decide), qset_cell _ (by decide), qset_cell _ (by decide)]; exact x32
        · rw [b.1 33 (by decide), qset_same, if_pos rfl]
        · rw [b.1 34 (by decide), qset_cell _ (by decide), qset_cell _ (by decide)]; exact x34
/-- the constant that a field's ConstantValue names -/
theorem kTag_iff {d t : Int} (hG : mG B n c) (hd : pT (mkP B c) d = 1) (hf : gField (pC (mkP B c) d) (pN (mkP B c) d) 0 = pN (mkP B c) d) (ht : 0 ≤ t ∧ t ≤ 18) : t = kTag (mkP B c) d ↔ (if pC (mkP B c) d 0 = 74 then t = 5 else if pC (mkP B c) d 0 = 70 then t = 4 else if pC (mkP B c) d 0 = 68 then t = 6 else if gBas (pC (mkP B c) d 0) = true then t = 3 else (gIs (pC (mkP B c) d) 0 (pN (mkP B c) d) wStr = true ∧ t = 8)) := by
  have hok := hG.ok.2.2.2.2 d hd
  have hin := (hG.on (pT_on (B := B) (c := c) (i := d) (by omega))).1
  unfold kTag pspells pchar pg
  have hin2 : 0 ≤ d ∧ d < pE (mkP B c) := ⟨by omega, hin.2⟩
  rw [if_pos hin2, decide_eq_true hd, Bool.true_and, hok.1]
  obtain ⟨N, hN⟩ : ∃ N, pN (mkP B c) d = N := ⟨_, rfl⟩
  obtain ⟨C, hC⟩ : ∃ C, pC (mkP B c) d = C := ⟨_, rfl⟩
  rw [hN, hC] at hf ⊢
  rw [hN] at hok
  have hg := gField_rg C N 0
  have hN0 : 0 < N := by omega
  rw [if_pos (show pT (mkP B c) d = 1 ∧ -1 ≤ 0 ∧ 0 < N by omega), if_neg (show ¬ ((0 : Int) = -1) by decide)]
  by_cases hs : gIs C 0 N wStr = true
  · have h76 : C 0 = 76 := by
      unfold gIs wStr gWd at hs
      rw [Bool.and_eq_true, Bool.and_eq_true, decide_eq_true_iff, decide_eq_true_iff] at hs
      exact hs.2.1
    rw [if_pos hs, h76, if_neg (show ¬ ((76 : Int) = 74) by decide), if_neg (show ¬ ((76 : Int) = 70) by decide), if_neg (show ¬ ((76 : Int) = 68) by decide), if_neg (show ¬ (gBas 76 = true) by decide)]
    exact ⟨fun h => ⟨hs, h⟩, fun h => h.2⟩
  · rw [if_neg hs]
    have one : gBas (C 0) = true → N = 1 := fun hb => by
      have h91 : C 0 ≠ 91 := fun z => by rw [z] at hb; exact absurd hb (by decide)
      have h76 : C 0 ≠ 76 := fun z => by rw [z] at hb; exact absurd hb (by decide)
      unfold gField at hf
      rw [show (N - 0).toNat = ((N - 0).toNat - 1) + 1 by omega] at hf
      unfold gBr at hf
      rw [if_neg h91] at hf
      unfold gFld at hf
      rw [if_neg (by omega), if_neg h76, if_pos hb] at hf
      omega
    have bas : N = 1 → gBas (C 0) = true := fun h => by
      subst h
      unfold gField at hf
      rw [show ((1 : Int) - 0).toNat = 0 + 1 from rfl] at hf
      unfold gBr gBr at hf
      by_cases h91 : C 0 = 91
      · rw [if_pos h91] at hf
        unfold gFld at hf
        rw [if_pos (by decide)] at hf
        exact absurd hf (by decide)
      · rw [if_neg h91] at hf
        unfold gFld at hf
        rw [if_neg (by decide)] at hf
        by_cases h76 : C 0 = 76
        · rw [if_pos h76] at hf
          unfold gObj at hf
          have := gSemi_rg C ((1 : Int) - (0 + 1)).toNat (0 + 1)
          rw [if_neg (by omega)] at hf
          exact absurd hf (by decide)
        · rw [if_neg h76] at hf
          by_cases hb : gBas (C 0) = true
          · exact hb
          · rw [if_neg hb] at hf
            exact absurd hf (by decide)
    have b74 : C 0 = 74 → gBas (C 0) = true := fun h => by rw [h]; rfl
    have b70 : C 0 = 70 → gBas (C 0) = true := fun h => by rw [h]; rfl
    have b68 : C 0 = 68 → gBas (C 0) = true := fun h => by rw [h]; rfl
    by_cases hN1 : N = 1
    · rw [if_neg (by omega), if_pos (bas hN1)]
      split
      · next h => rw [if_neg (show ¬ C 0 = 74 by omega), if_neg (show ¬ C 0 = 70 by omega)]
      · next h =>
        split
        · next h2 => rw [if_neg (show ¬ C 0 = 74 by omega)]
        · next h2 =>
          by_cases h3 : C 0 = 74
          · rw [if_pos h3, if_pos h3]
          · rw [if_neg h3, if_neg h3]
    · have nb : ¬ gBas (C 0) = true := fun h => hN1 (one h)
      rw [if_pos hN1, if_neg (fun h => nb (b74 h)), if_neg (fun h => nb (b70 h)), if_neg (fun h => nb (b68 h)), if_neg nb]
      exact ⟨fun h => by omega, fun h => absurd h.1 hs⟩
theorem m169 (hS : mS s0 B n) (hA : mAt s0 p s) (h0 : 0 ≤ p) (h1 : p ≤ n) (hP : mPo s B n c) (hm : 0 ≤ m ∧ m < 160) {q0 dc : Int} (h30 : s 30 m = q0) (hq0 : 0 ≤ q0 ∧ q0 + 6 ≤ n) (hdc : b2 B (q0 + 4) = dc) (hd : pT (mkP B c) dc = 1) (hf : gField (pC (mkP B c) dc) (pN (mkP B c) dc) 0 = pN (mkP B c) dc)
    (H : qRes (rTake (mkP B c) B n p (kTag (mkP B c) dc)) (fun e => ∀ s', mFt s0 e s' → fv s') (fun _ => ∀ s', mAt s0 (p + 2) s' → mFm m s s' → s' 32 m = b2 B p → s' 33 m = s 33 m → s' 34 m = s 34 m → fv s')) : qW w 4 169 [.ref 25, qI m] s (qPV fv g) := by
  have h5 := hS.1.2.1
  have rn : ∀ q : Int, 0 ≤ q → q ≤ n → Rg q := fun q q0 q1 => ⟨by omega, by omega⟩
  have hok := hP.1.ok.2.2.2.2 dc hd
  have hcr := mCh_rg (k := 0) hP.1 hd (by decide)
  have hN : 0 < pN (mkP B c) dc := by
    have := gField_rg (pC (mkP B c) dc) (pN (mkP B c) dc) 0
    omega
  unfold rTake at H
  rw [qRes_bd] at H
  refine k169 (m131 hS hA h0 h1 (qRes_mono H (fun e he H v q v0 v1 q0' q1 => ?_) (fun v hv H => ?_)))
  · have en := rU2_l he
    have hF := hA.dd (q := q) (e := e) (rn q (by omega) q1) (by omega) (by rw [en]; exact rn n (by omega) (by omega))
    have hP2 := mDd_po hP q e
    refine ⟨hm.1, hm.2, ?_⟩
    rw [show mDd s q e 30 m = q0 from h30]
    refine m142 hS.1 hP2.2.2.2.1 (by omega) (by omega) ?_
    rw [hdc]
    exact m146 hP2 hd (by decide) d0 (m139 hP2 ⟨by omega, by omega⟩ (m134_d hF ⟨d0, fun _ => H _ hF, fun y => absurd rfl y⟩))
  · obtain ⟨q1, rfl⟩ := rU2_r hv
    have r := b2_rg hS.1 h0 q1
    have hA2 := hA.mv (p + 2)
    have hM2 : mSm s (qset s 25 5 (p + 2)) := (mSm.rfl' s).mv _
    have hP2 := hM2.po hP
    refine ⟨hm.1, hm.2, ?_⟩
    rw [show qset s 25 5 (p + 2) 30 m = q0 from h30]
    refine m142 hS.1 hP2.2.2.2.1 (by omega) (by omega) ?_
    rw [hdc]
    refine m146 hP2 hd (by decide) d0 (m139 hP2 ⟨by omega, by omega⟩ (m134 hA2 ⟨d1, fun y => absurd y (by decide), fun _ => ?_⟩))
    rw [mCh_in hN] at hcr ⊢
    obtain ⟨t, ht⟩ : ∃ t, pT (mkP B c) (b2 B p) = t := ⟨_, rfl⟩
    have htr := hP.1.ok.2.2.2.1 (b2 B p)
    have hki := kTag_iff (t := t) hP.1 hd hf (by rw [ht] at htr; exact ⟨htr.1, htr.2.1⟩)
    rw [ht] at htr ⊢
    have hR : Rg t := ⟨by omega, by omega⟩
    have hpg : (pg (mkP B c) (pT (mkP B c)) (b2 B p) = kTag (mkP B c) dc) ↔ t = kTag (mkP B c) dc := by
      unfold pg
      split
      · rw [ht]
      · next hh =>
        have t0 := hP.1.ok.2.2.1 (b2 B p) (by omega)
        rw [ht] at t0
        have hk : kTag (mkP B c) dc ≠ -2 ∧ kTag (mkP B c) dc ≠ 0 := by
          unfold kTag
          split
          · decide
          · split
            · decide
            · split
              · decide
              · split
                · decide
                · split <;> decide
        exact ⟨fun x => absurd x.symm hk.1, fun x => absurd (x.symm.trans t0) hk.2⟩
    rw [qRes_bd] at H
    rw [hA.2.1]
    have hgood : t = kTag (mkP B c) dc → ∀ b : Int, b = 1 → qR w 3 qm169 157 [(0, .ref 25), (1, qI m), (2, qI p), (3, qI (b2 B p))] [qI b] (qset s 25 5 (p + 2)) (qPV fv g) := fun hh b hb => by
      rw [decide_eq_true (hpg.mpr hh)] at H
      subst hb
      refine k169_157 ⟨d1, fun y => absurd y (by decide), fun _ => k169_170 ⟨hm.1, hm.2, ?_⟩⟩
      refine H _ (hA2.w3 (Or.inl rfl)) ((hM2.fm m).set _ (Or.inl rfl)) ?_ ?_ ?_
      · rw [qset_same, if_pos rfl]
      · rw [qset_cell _ (by decide), qset_cell _ (by decide)]
      · rw [qset_cell _ (by decide), qset_cell _ (by decide)]
    have hbad : t ≠ kTag (mkP B c) dc → qR w 3 qm169 157 [(0, .ref 25), (1, qI m), (2, qI p), (3, qI (b2 B p))] [qI 0] (qset s 25 5 (p + 2)) (qPV fv g) := fun hh => by
      rw [decide_eq_false (fun x => hh (hpg.mp x))] at H
      have hF := hA2.ft (e := p) (rn _ (by omega) q1) h0 (rn _ h0 h1)
      exact k169_157 ⟨d0, fun _ => m133 hA2 (k169_170 ⟨hm.1, hm.2, H _ (hF.w3 (Or.inl rfl))⟩), fun y => absurd rfl y⟩
    obtain ⟨x, hx⟩ : ∃ x, pC (mkP B c) dc 0 = x := ⟨_, rfl⟩
    rw [hx] at hki hcr ⊢
    refine ⟨⟨by omega, by omega⟩, fun y => ?_, fun y1 => ⟨fun y => ?_, fun y2 => ⟨fun y => ?_, fun y3 => ?_⟩⟩⟩
    · rw [if_pos y] at hki
      exact ⟨hR, fun z => hgood (hki.mpr z) 1 rfl, fun z => hbad (fun u => z (hki.mp u))⟩
    · rw [if_neg y1, if_pos y] at hki
      exact ⟨hR, fun z => hgood (hki.mpr z) 1 rfl, fun z => hbad (fun u => z (hki.mp u))⟩
    · rw [if_neg y1, if_neg y2, if_pos y] at hki
      exact ⟨hR, fun z => hgood (hki.mpr z) 1 rfl, fun z => hbad (fun u => z (hki.mp u))⟩
    · rw [if_neg y1, if_neg y2, if_neg y3] at hki
      refine m149 ⟨by omega, by omega⟩ (fun y => ⟨⟨by decide, by decide⟩, fun _ => m155 (t := 11) (by decide) hP2 hd ?_, fun z => absurd z (by decide)⟩) (fun y v v0 v1 => ⟨⟨by omega, by omega⟩, fun z => absurd z (by omega), fun _ => ⟨hR, fun z => hgood (hki.mpr ?_) 1 rfl, fun z => hbad (fun u => z ?_)⟩⟩)
      · rw [if_neg (by rw [y]; decide)] at hki
        refine ⟨bi_rg _, fun z => k169_156 (hbad (fun u => ?_)), fun z => ⟨hR, fun u => hgood (hki.mpr ⟨?_, u⟩) 1 rfl, fun u => k169_156 (hbad (fun v => u (hki.mp v).2))⟩⟩
        · rw [bi_0] at z
          have z : gIs (pC (mkP B c) dc) 0 (pN (mkP B c) dc) wStr = false := z
          have := (hki.mp u).1
          rw [z] at this
          exact absurd this (by decide)
        · rw [bi_n] at z
          exact z
      · rw [if_pos y]; exact z
      · rw [if_pos y] at hki; exact hki.mp u
/-- exceptions -/
theorem m168_56_d (hF : mFt s0 e s) {m v : Int} (hm : 0 ≤ m ∧ m < 160) (hv : Rg v) (h34 : Rg (s 34 m)) (H : fv s) : qR w 6 qm168 56 [(0, .ref 25), (2, qI m), (3, qI v)] [] s (qPV fv g) :=
  k168_56 ⟨hm.1, hm.2, hv, h34, fun _ => m134_d hF ⟨d0, fun _ => k168_86 (k168_94 H), fun y => absurd rfl y⟩, fun _ => k168_86 (k168_94 H)⟩
theorem m168_loop (hS : mS s0 B n) {N m : Int} (hN : 0 ≤ N ∧ N ≤ 65535) (hm : 0 ≤ m ∧ m < 160) : ∀ (d : Nat) (p : Int) (s : qS), (d : Int) ≤ N → mAt s0 p s → 0 ≤ p → p ≤ n → mPo s B n c → s 34 m = N → qRes (rTks (mkP B c) B n d p) (fun e => ∀ s', mFt s0 e s' → fv s') (fun r => ∀ s', mAt s0 r s' → mSm s s' → fv s') → qR w 6 qm168 56 [(0, .ref 25), (2, qI m), (3, qI (N - d))] [] s (qPV fv g) := by
  have h5 := hS.1.2.1
  intro d
  induction d with
  | zero =>
    intro p s hd hA h0 h1 hP h34 H
    exact k168_56 ⟨hm.1, hm.2, ⟨by omega, by omega⟩, by rw [h34]; exact ⟨by omega, by omega⟩, fun y => absurd y (by rw [h34]; omega), fun _ => k168_86 (k168_94 (H s hA (mSm.rfl' s)))⟩
  | succ d ih =>
    intro p s hd hA h0 h1 hP h34 H
    unfold rTks at H
    rw [qRes_bd] at H
    have rm : Rg N := ⟨by omega, by omega⟩
    have rm1 : Rg (N - ((d + 1 : Nat) : Int) + 1) := ⟨by omega, by omega⟩
    refine k168_56 ⟨hm.1, hm.2, ⟨by omega, by omega⟩, by rw [h34]; exact rm, fun _ => m134 hA ⟨d1, fun y => absurd y (by decide), fun _ => m171_0 hS hA h0 h1 hP (by decide) (qRes_mono H (fun e he H q hq => ?_) (fun v hv H => ?_))⟩, fun y => absurd y (by rw [h34]; omega)⟩
    · have en := rTake_l he
      have hF := hA.dd (q := q) (e := e) hq (by omega) ⟨by omega, by omega⟩
      exact m168_56_d hF hm rm1 (by show Rg (s 34 m); rw [h34]; exact rm) (H _ hF)
    · obtain ⟨q1, -⟩ := rTake_v hv
      have hM : mSm s (qset s 25 5 (p + 2)) := (mSm.rfl' s).mv _
      rw [show N - ((d + 1 : Nat) : Int) + 1 = N - (d : Int) by omega]
      exact ih _ _ (by omega) (hA.mv _) (by omega) q1 (hM.po hP) (by rw [hM.1 34 (by decide)]; exact h34) (qRes_mono H (fun _ _ h => h) (fun r _ H s' a b => H s' a (hM.trans b)))
theorem m168_2 (hS : mS s0 B n) (hA : mAt s0 p s) (h0 : 0 ≤ p) (h1 : p ≤ n) (hP : mPo s B n c) (hm : 0 ≤ m ∧ m < 160) (H : qRes (rCls (mkP B c) B n p) (fun e => ∀ s', mFt s0 e s' → fv s') (fun r => ∀ s', mAt s0 r s' → mFm m s s' → s' 34 m = b2 B p → s' 32 m = s 32 m → s' 33 m = s 33 m → fv s')) : qW w 7 168 [.ref 25, qI 2, qI m] s (qPV fv g) := by
  have h5 := hS.1.2.1
  unfold rCls at H
  rw [qRes_bd] at H
  refine k168 ⟨⟨by decide, by decide⟩, fun y => absurd y (by decide), fun y => absurd y (by decide), fun _ => m131' hS hA h0 h1 (qRes_mono H (fun e he H v s' v0 v1 hF => ⟨hm.1, hm.2, m168_56_d (hF.w3 (Or.inr (Or.inr rfl))) hm d0 ?_ (H _ (hF.w3 (Or.inr (Or.inr rfl))))⟩) (fun v hv H => ⟨hm.1, hm.2, ?_⟩)), fun _ _ y => absurd rfl y⟩
  · rw [qset_same, if_pos rfl]; exact ⟨by omega, by omega⟩
  · obtain ⟨q1, rfl⟩ := rU2_r hv
    have r := b2_rg hS.1 h0 q1
    have hM := (((mSm.rfl' s).mv (p + 2)).fm m).set (k := 34) (b2 B p) (Or.inr (Or.inr rfl))
    have := m168_loop (w := w) (g := g) (fv := fv) hS r hm (b2 B p).toNat (p + 2) _ (by omega) ((hA.mv (p + 2)).w3 (k := 34) (j := m) (v := b2 B p) (Or.inr (Or.inr rfl))) (by omega) q1 (hM.po hP) (by rw [qset_same, if_pos rfl]) (qRes_mono H (fun _ _ h => h) (fun r _ H s' a b => H s' a (hM.trans (b.fm m)) ?_ ?_ ?_))
    · rw [show b2 B p - ((b2 B p).toNat : Int) = 0 by omega] at this
      exact this
    · rw [b.1 34 (by decide), qset_same, if_pos rfl]
    · rw [b.1 32 (by decide), qset_cell _ (by decide), qset_cell _ (by decide)]
    · rw [b.1 33 (by decide), qset_cell _ (by decide), qset_cell _ (by decide)]
end MB
