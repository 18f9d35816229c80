/-! THE MODEL reads members, all, and read -/
/-- the members from first on, k of them -/
def mMem (s : qS) (first : Int) (B : Int → Int) (MP : Int → Int) (MA : Int → Int → Int) (k : Int) : Prop := ∀ j, 0 ≤ j → j < k → s 30 (first + j) = MP j ∧ s 31 (first + j) = b2 B (MP j + 6) ∧ mAM s B (first + j) (MA j)
/-- what reading the members from first on leaves alone -/
def mFN (first : Int) (s s' : qS) : Prop := (∀ k, k ≠ 25 → ¬ (30 ≤ k ∧ k ≤ 35) → k ≠ 39 → s' k = s k) ∧ (∀ k, 30 ≤ k → k ≤ 34 → ∀ j, (j < first ∨ first + 80 ≤ j) → s' k j = s k j) ∧ ∀ j, j ≠ 5 → j ≠ 6 → j ≠ 27 → j ≠ 28 → s' 25 j = s 25 j
theorem mFN.rfl' (first : Int) (s : qS) : mFN first s s := ⟨fun _ _ _ _ => rfl, fun _ _ _ _ _ => rfl, fun _ _ _ _ _ => rfl⟩
theorem mFN.trans {m : Int} {s s' s'' : qS} (h : mFN m s s') (h' : mFN m s' s'') : mFN m s s'' :=
  ⟨fun k a b c => (h'.1 k a b c).trans (h.1 k a b c), fun k a b j hj => (h'.2.1 k a b j hj).trans (h.2.1 k a b j hj), fun j a b c d => (h'.2.2 j a b c d).trans (h.2.2 j a b c d)⟩
theorem mFM.fN {m first : Int} {s s' : qS} (h : mFM m s s') (hm : first ≤ m ∧ m < first + 80) : mFN first s s' := ⟨fun k a b c => h.1 k a (by omega) c, fun k a b j hj => h.2.1 k a b j (by omega), h.2.2⟩
theorem mSm.fN {s s' : qS} (h : mSm s s') (first : Int) : mFN first s s' := ⟨fun k a _ _ => h.1 k a, fun k a _ j _ => by rw [h.1 k (by omega)], fun j a b _ _ => h.2 j a b⟩
theorem mFN.s35 {first : Int} {s s' : qS} (h : mFN first s s') (j v : Int) : mFN first s (qset s' 35 j v) := ⟨fun k a b c => by rw [qset_cell _ (by omega)]; exact h.1 k a b c, fun k a b j hj => by rw [qset_cell _ (by omega)]; exact h.2.1 k a b j hj, fun j a b c d => by rw [qset_cell _ (by decide)]; exact h.2.2 j a b c d⟩
theorem mFN.po {m : Int} {s s' : qS} {B : Int → Int} {n c : Int} (h : mFN m s s') (hP : mPo s B n c) : mPo s' B n c := hP.fr (h.2.2 11 (by decide) (by decide) (by decide) (by decide)) (h.1 26 (by decide) (by decide) (by decide)) (h.1 28 (by decide) (by decide) (by decide)) (h.1 29 (by decide) (by decide) (by decide))
section MN
variable {w : qE} {s s0 s1 : qS} {B P att : Int → Int} {n c i p e m pl dc q : Int} {f : Int → qS → Prop} {fv : qS → Prop} {g : Nat → qS → Prop}
theorem m161_48_d (hF : mFt s0 e s) {me : Bool} {v2 : Int} (H : ∀ s', mFt s0 e s' → fv s') : qR w 9 qm161 48 [(0, .ref 25), (1, qI (bi me)), (2, qI v2)] [] s (qPV fv g) := by
  have h73 : ∀ k1 : Int, 0 ≤ k1 → k1 < 2 → qR w 9 qm161 61 [(0, .ref 25), (2, qI v2)] [qI k1, .ref 35] s (qPV fv g) := fun k1 a b =>
    k161_61 (m134_d hF ⟨d0, fun _ => k161_73 ⟨a, b, H _ (hF.set (by omega) (fun y => absurd y (by omega)) (fun y => absurd y (by omega)))⟩, fun y => absurd rfl y⟩)
  exact k161_48 ⟨bi_rg _, fun _ => h73 0 (by decide) (by decide), fun _ => h73 1 (by decide) (by decide)⟩
theorem m161_loop {me : Bool} {first N : Int} (hS : mS s0 B n) (hN : 0 ≤ N ∧ N ≤ 65535) (hf : first = 0 ∨ first = 80) : ∀ (d : Nat) (k q : Int) (MP : Int → Int) (MA : Int → Int → Int) (s : qS), k + d = N → 0 ≤ k → mAt s0 q s → 2 + 8 * k ≤ q → q ≤ n → mPo s B n c → mOkM B n c MP k → mMem s first B MP MA k →
    qRes (rMs (mkP B c) B n me d k q MP MA) (fun e => ∀ s', mFt s0 e s' → fv s') (fun r => ∀ s', mAt s0 r.1 s' → mFN first s s' → mMem s' first B r.2.1 r.2.2 N → s' 35 (bi me) = N → (∀ j, j ≠ bi me → s' 35 j = s 35 j) → fv s') →
    qR w 9 qm161 19 [(0, .ref 25), (1, qI (bi me)), (2, qI N), (3, qI first), (4, qI k)] [] s (qPV fv g) := by
  have h5 := hS.1.2.1
  intro d
  induction d with
  | zero =>
    intro k q MP MA s hk k0 hA h0 h1 hP hM hMm H
    have hkN : k = N := by omega
    subst hkN
    have h73 : ∀ k1 : Int, k1 = bi me → 0 ≤ k1 → k1 < 2 → qR w 9 qm161 61 [(0, .ref 25), (2, qI k)] [qI k1, .ref 35] s (qPV fv g) := fun k1 e a b => by
      refine k161_61 (m134 hA ⟨d1, fun y => absurd y (by decide), fun _ => k161_73 ⟨a, b, ?_⟩⟩)
      have H : ∀ s', mAt s0 q s' → mFN first s s' → mMem s' first B MP MA k → s' 35 (bi me) = k → (∀ j, j ≠ bi me → s' 35 j = s 35 j) → fv s' := H
      refine H _ (hA.set (by omega) (fun y => absurd y (by omega)) (fun y => absurd y (by omega))) ((mFN.rfl' first s).s35 _ _) (fun j j0 j1 => ?_) (by rw [e, qset_same, if_pos rfl]) (fun j hj => by rw [qset_same, if_neg (by omega)])
      unfold mAM
      rw [qset_cell _ (by decide), qset_cell _ (by decide), qset_cell _ (by decide), qset_cell _ (by decide), qset_cell _ (by decide)]
      exact hMm j j0 j1
    refine k161_19 ⟨⟨by omega, by omega⟩, ⟨by omega, by omega⟩, fun y => absurd y (by omega), fun _ => k161_48 ⟨bi_rg _, fun z => h73 0 z.symm (by decide) (by decide), fun z => h73 1 ?_ (by decide) (by decide)⟩⟩
    rw [bi_n] at z
    rw [z]; rfl
  | succ d ih =>
    intro k q MP MA s hk k0 hA h0 h1 hP hM hMm H
    unfold rMs at H
    rw [qRes_bd] at H
    have rN : Rg N := ⟨by omega, by omega⟩
    refine k161_19 ⟨⟨by omega, by omega⟩, rN, fun _ => m134 hA ⟨d1, fun y => absurd y (by decide), fun _ => m162 hS hA (by omega) h1 hP hM (by omega) (fun j j0 j1 => (hMm j j0 j1).1) (qRes_mono H (fun e he H s' hF => ?_) (fun r hr H s' a1 a2 a3 a4 a5 a6 a7 => ?_))⟩, fun y => absurd y (by omega)⟩
    · exact k161_19 ⟨⟨by omega, by omega⟩, rN, fun _ => m134_d hF ⟨d0, fun _ => m161_48_d hF H, fun y => absurd rfl y⟩, fun _ => m161_48_d hF H⟩
    · have hN2 := a2.fN (first := first) (by omega)
      refine ih (k + 1) r.1 _ _ s' (by omega) (by omega) a1 (by omega) a6.2 (a2.po hP) (fun j j0 j1 => ?_) (fun j j0 j1 => ?_) (qRes_mono H (fun _ _ h => h) (fun r _ H s'' b1 b2' b3 b4 b5 => H s'' b1 (hN2.trans b2') b3 b4 (fun j hj => (b5 j hj).trans (by rw [a2.1 35 (by decide) (by decide) (by decide)]))))
      · rw [upI_at]
        by_cases hj : j = k
        · rw [if_pos hj]; exact ⟨by omega, by omega, a7⟩
        · rw [if_neg hj]; exact hM j j0 (by omega)
      · rw [upI_at, upF_at]
        by_cases hj : j = k
        · rw [if_pos hj, if_pos hj, hj]; exact ⟨a3, a4, a5⟩
        · rw [if_neg hj, if_neg hj]
          have e : ∀ x, 30 ≤ x → x ≤ 34 → s' x (first + j) = s x (first + j) := fun x x0 x1 => a2.2.1 x x0 x1 _ (by omega)
          unfold mAM
          rw [e 30 (by decide) (by decide), e 31 (by decide) (by decide), e 32 (by decide) (by decide), e 33 (by decide) (by decide), e 34 (by decide) (by decide)]
          exact hMm j j0 (by omega)
theorem m161 {me : Bool} (hS : mS s0 B n) (hA : mAt s0 p s) (h0 : 0 ≤ p) (h1 : p ≤ n) (hP : mPo s B n c)
    (H : qRes (rMbs (mkP B c) B n me p) (fun e => ∀ s', mFt s0 e s' → fv s') (fun r => ∀ s', mAt s0 r.1 s' → mFN (if me = true then 80 else 0) s s' → mMem s' (if me = true then 80 else 0) B r.2.1 r.2.2 (b2 B p) → s' 35 (bi me) = b2 B p → (∀ j, j ≠ bi me → s' 35 j = s 35 j) → fv s')) : qW w 10 161 [.ref 25, qI (bi me)] s (qPV fv g) := by
  unfold rMbs at H
  rw [qRes_bd] at H
  refine k161 (m131' hS hA h0 h1 (qRes_mono H (fun e he H v s' v0 v1 hF => ?_) (fun v hv H => ?_)))
  · have key : ∀ x : Int, qR w 9 qm161 15 [(0, .ref 25), (1, qI (bi me)), (2, qI v)] [qI x] s' (qPV fv g) := fun x =>
      k161_15 (k161_19 ⟨d0, ⟨by omega, by omega⟩, fun _ => m134_d hF ⟨d0, fun _ => m161_48_d hF H, fun y => absurd rfl y⟩, fun _ => m161_48_d hF H⟩)
    exact ⟨bi_rg _, fun _ => key 0, fun _ => key 80⟩
  · obtain ⟨q1, rfl⟩ := rU2_r hv
    have r := b2_rg hS.1 h0 q1
    have hM : mSm s (qset s 25 5 (p + 2)) := (mSm.rfl' s).mv _
    obtain ⟨first, hfi⟩ : ∃ first : Int, (if me = true then (80 : Int) else 0) = first := ⟨_, rfl⟩
    rw [hfi] at H
    have hf2 : first = 0 ∨ first = 80 := by cases me <;> simp at hfi <;> omega
    have := m161_loop (w := w) (fv := fv) (g := g) (c := c) (me := me) (first := first) (N := b2 B p) hS r hf2 (b2 B p).toNat 0 (p + 2) (fun _ => 0) (fun _ => att0) _ (by omega) (by omega) (hA.mv _) (by omega) q1 (hM.po hP) (fun j j0 j1 => absurd j1 (by omega)) (fun j j0 j1 => absurd j1 (by omega)) (qRes_mono H (fun _ _ h => h) (fun r _ H s' a1 a2 a3 a4 a5 => H s' a1 ((hM.fN first).trans a2) a3 a4 (fun j hj => (a5 j hj).trans (by rw [hM.1 35 (by decide)]))))
    refine ⟨bi_rg _, fun z => k161_15 ?_, fun z => k161_15 ?_⟩
    · rw [bi_0] at z
      rw [z, if_neg (by decide)] at hfi
      subst hfi; exact this
    · rw [bi_n] at z
      rw [z, if_pos rfl] at hfi
      subst hfi; exact this
end MN
